import java.io.ByteArrayOutputStream;
import java.io.PrintStream;
import java.lang.reflect.Method;
import java.lang.reflect.Modifier;
import java.net.URL;
import java.net.URLClassLoader;
import java.nio.file.Files;
import java.nio.file.Path;
import java.util.List;
import java.util.regex.Matcher;
import java.util.regex.Pattern;
import java.util.stream.Collectors;
import java.util.stream.Stream;
import javax.tools.ToolProvider;

/** The example of README.md prints what it says behind each row, and README.md names every call. */
public final class ReadmeTest {
    private static final Check CHECK = new Check("ReadmeTest");

    private ReadmeTest() {
    }

    public static void main(String[] args) throws Exception {
        String readme = Files.readString(Path.of("README.md"));
        exampleHolds(readme);
        everyCallIsNamed(readme);
        CHECK.end();
    }

    private static void exampleHolds(String readme) throws Exception {
        Matcher block = Pattern.compile("(?s)```java\n(.*?)```").matcher(readme);
        CHECK.due("there is an example", block.find(), true);
        String source = block.group(1);
        List<String> due = Pattern.compile("println\\(.*\\); +// (-?\\d+):").matcher(source).results()
                .map(row -> row.group(1)).collect(Collectors.toList());
        List<String> printed = printedBy(source);
        CHECK.due("rows printed", printed.size(), source.split("println", -1).length - 1);
        CHECK.due("rows that say what is due", due.size(), printed.size());
        for (int i = 0; i < due.size() && i < printed.size(); i++) {
            CHECK.due("row " + i + " of the example", Long.parseLong(printed.get(i)), Long.parseLong(due.get(i)));
        }
    }

    private static List<String> printedBy(String source) throws Exception {
        Path room = Files.createTempDirectory("readme");
        try {
            Path file = Files.writeString(room.resolve("Example.java"), source);
            int status = ToolProvider.getSystemJavaCompiler().run(null, null, null, "-cp",
                    System.getProperty("java.class.path"), "-d", room.toString(), file.toString());
            CHECK.due("the example compiles", status, 0);
            return status == 0 ? printedByMain(room) : List.of();
        } finally {
            remove(room);
        }
    }

    private static List<String> printedByMain(Path room) throws Exception {
        PrintStream before = System.out;
        ByteArrayOutputStream caught = new ByteArrayOutputStream();
        try (URLClassLoader loader = new URLClassLoader(new URL[] {room.toUri().toURL()})) {
            Method main = loader.loadClass("Example").getMethod("main", String[].class);
            System.setOut(new PrintStream(caught, true));
            main.invoke(null, (Object) new String[0]);
        } finally {
            System.setOut(before);
        }
        return caught.toString().lines().collect(Collectors.toList());
    }

    private static void remove(Path room) throws Exception {
        try (Stream<Path> files = Files.list(room)) {
            for (Path file : files.collect(Collectors.toList())) {
                Files.delete(file);
            }
        }
        Files.delete(room);
    }

    private static void everyCallIsNamed(String readme) {
        for (Method call : OpenLines.class.getDeclaredMethods()) {
            if (Modifier.isPublic(call.getModifiers())) {
                boolean named = Pattern.compile("`" + call.getName() + "[`(]").matcher(readme).find();
                CHECK.due("README.md names " + call.getName(), named, true);
            }
        }
    }
}
