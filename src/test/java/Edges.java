import java.io.IOException;
import java.lang.reflect.InvocationTargetException;
import java.lang.reflect.Method;
import java.nio.file.Files;
import java.nio.file.Path;
import java.util.ArrayList;
import java.util.Arrays;
import java.util.Comparator;
import java.util.List;

/** Runs the tests of boundary cases of a class, and looks their sentences up in the document. */
final class Edges {
    private static final Path DOCUMENT = Path.of("../shared/DOC.md");

    private Edges() {
    }

    static void run(Class<?> tests, Check check) throws Exception {
        String document = document();
        for (Method test : of(tests)) {
            Edge edge = test.getAnnotation(Edge.class);
            check.enter(test.getName() + " (promise " + edge.promise() + ": \"" + edge.says() + "\")");
            check.due("the document says so", isSaid(document, edge), true);
            check.due("the name begins with the promise", isNamed(test, edge), true);
            int before = check.answers();
            play(test, check);
            check.due("asks something", check.answers() > before, true);
        }
        check.end();
    }

    static List<Method> of(Class<?> tests) {
        List<Method> found = new ArrayList<>();
        for (Method method : tests.getDeclaredMethods()) {
            if (method.isAnnotationPresent(Edge.class)) {
                found.add(method);
            }
        }
        found.sort(Comparator.comparing(Method::getName));
        return found;
    }

    private static void play(Method test, Check check) throws IllegalAccessException {
        test.setAccessible(true);
        try {
            test.invoke(null);
        } catch (InvocationTargetException e) {
            check.fail("ended by " + e.getCause() + " " + Arrays.toString(e.getCause().getStackTrace()));
        }
    }

    private static boolean isNamed(Method test, Edge edge) {
        return test.getName().matches("promise" + edge.promise() + "[A-Z].*");
    }

    static String document() throws IOException {
        return Files.readString(DOCUMENT).replaceAll("\\s+", " ");
    }

    private static boolean isSaid(String document, Edge edge) {
        String sentence = edge.says().replaceAll("\\s+", " ");
        int from = document.indexOf("## Promise " + edge.promise() + ":");
        int to = document.indexOf(" ## ", from + 1);
        String promise = from < 0 || to < 0 ? "" : document.substring(from, to);
        String terms = document.substring(document.indexOf("## Terms"), document.indexOf("## Promise 1:"));
        return !sentence.isEmpty() && (promise.contains(sentence) || terms.contains(sentence));
    }
}
