import java.lang.reflect.Constructor;
import java.lang.reflect.Field;
import java.lang.reflect.Method;
import java.lang.reflect.Modifier;
import java.nio.file.Files;
import java.nio.file.Path;
import java.util.ArrayList;
import java.util.Arrays;
import java.util.List;
import java.util.TreeSet;
import java.util.regex.Matcher;
import java.util.regex.Pattern;

/** The public face as the document tells it, and those rules of LANGUAGE.md that can be looked up. */
public final class FaceTest {
    private static final Check CHECK = new Check("FaceTest");
    private static final Path SOURCE = Path.of("src/main/java/OpenLines.java");
    private static final Path DOCUMENT = Path.of("../shared/DOC.md");

    private FaceTest() {
    }

    public static void main(String[] args) throws Exception {
        faceIsTheDocuments();
        nothingElseIsVisible();
        noPrivateMethodBearsAPublicName();
        sourceKeepsToTheLanguage();
        methodsAreShort();
        CHECK.end();
    }

    private static void faceIsTheDocuments() throws Exception {
        String text = Files.readString(DOCUMENT);
        Matcher told = Pattern.compile("(?m)^    public (int|boolean) (\\w+)\\(([^)]*)\\)(?: throws (\\w+))?;$").matcher(text);
        TreeSet<String> want = new TreeSet<>();
        while (told.find()) {
            int count = told.group(3).isEmpty() ? 0 : told.group(3).split(",").length;
            String thrown = told.group(4) == null ? "" : told.group(4);
            want.add(told.group(1) + " " + told.group(2) + " " + count + " " + thrown);
        }
        TreeSet<String> got = new TreeSet<>();
        for (Method m : OpenLines.class.getDeclaredMethods()) {
            if (Modifier.isPublic(m.getModifiers())) {
                boolean ints = Arrays.stream(m.getParameterTypes()).allMatch(t -> t == int.class);
                String thrown = m.getExceptionTypes().length == 0 ? "" : m.getExceptionTypes()[0].getSimpleName();
                got.add(m.getReturnType() + " " + m.getName() + " " + m.getParameterCount() + " " + thrown);
                CHECK.due(m.getName() + " takes ints and is no static method", ints && !Modifier.isStatic(m.getModifiers()), true);
            }
        }
        CHECK.due("42 methods", want.size(), 42);
        CHECK.due("the face is " + got, got.equals(want), true);
        CHECK.due("the class is public and final", OpenLines.class.getModifiers(), Modifier.PUBLIC | Modifier.FINAL);
        CHECK.due("NONE", OpenLines.NONE, -1);
    }

    private static void nothingElseIsVisible() {
        for (Method m : OpenLines.class.getDeclaredMethods()) {
            boolean visible = Modifier.isPublic(m.getModifiers()) || Modifier.isPrivate(m.getModifiers());
            CHECK.due(m.getName() + " is public or private", visible, true);
        }
        for (Field f : OpenLines.class.getDeclaredFields()) {
            boolean none = f.getName().equals("NONE");
            CHECK.due(f.getName() + " is private, NONE aside", Modifier.isPublic(f.getModifiers()) == none
                    && Modifier.isPrivate(f.getModifiers()) != none, true);
        }
        Constructor<?>[] made = OpenLines.class.getDeclaredConstructors();
        CHECK.due("one public constructor", made.length == 1 && Modifier.isPublic(made[0].getModifiers())
                && made[0].getParameterCount() == 0, true);
        Class<?>[] inside = OpenLines.class.getDeclaredClasses();
        CHECK.due("some twelve classes", inside.length <= 11, true);
        for (Class<?> c : inside) {
            CHECK.due(c + " is static", Modifier.isStatic(c.getModifiers()), true);
            CHECK.due(c + " is private", Modifier.isPrivate(c.getModifiers()), true);
        }
        for (Class<?> c : withInside()) {
            long own = Arrays.stream(c.getDeclaredFields()).filter(f -> !Modifier.isStatic(f.getModifiers())).count();
            CHECK.due(c + " has some twenty fields", own <= 20, true);
            for (Field f : c.getDeclaredFields()) {
                CHECK.due(f + " is final if static", !Modifier.isStatic(f.getModifiers()) || Modifier.isFinal(f.getModifiers()), true);
            }
        }
    }

    private static List<Class<?>> withInside() {
        List<Class<?>> all = new ArrayList<>(List.of(OpenLines.class.getDeclaredClasses()));
        all.add(OpenLines.class);
        return all;
    }

    private static void noPrivateMethodBearsAPublicName() {
        TreeSet<String> names = new TreeSet<>();
        for (Method m : OpenLines.class.getDeclaredMethods()) {
            if (Modifier.isPublic(m.getModifiers())) {
                names.add(m.getName());
            }
        }
        for (Class<?> c : withInside()) {
            for (Method m : c.getDeclaredMethods()) {
                boolean face = c == OpenLines.class && Modifier.isPublic(m.getModifiers());
                CHECK.due(m + " bears a name of its own", face || !names.contains(m.getName()), true);
                CHECK.due(m + " takes seven at most", m.getParameterCount() <= 7, true);
            }
        }
    }

    private static String bare() throws Exception {
        String source = Files.readString(SOURCE).replaceAll("(?s)/\\*.*?\\*/", "").replaceAll("//[^\n]*", "");
        return source.replaceAll("\"[^\"\n]*\"", "\"\"").replaceAll("'[^']*'", "' '");
    }

    private static void sourceKeepsToTheLanguage() throws Exception {
        String bare = bare();
        String[] banned = {"->", "::", "\\btry\\b", "\\bcatch\\b", "\\bfinally\\b", "\\bsynchronized\\b", "\\bassert\\b",
            "\\bpackage\\b", "\\bprotected\\b", "\\bThread\\b", "\\bObject\\b", "\\bString\\.format\\b", "Exact\\b",
            "\\bdouble\\b", "\\bfloat\\b", "static \\{", "@\\w+", "\\bMath\\.random\\b", "System\\.(?!arraycopy)",
            "\\bhashCode\\b", "\\btoString\\b", "\\bvar\\b"};
        for (String pattern : banned) {
            CHECK.due("the source has no " + pattern, Pattern.compile(pattern).matcher(bare).find(), false);
        }
        Matcher imports = Pattern.compile("(?m)^import ([\\w.]+);").matcher(bare);
        while (imports.find()) {
            String name = imports.group(1);
            CHECK.due(name + " may be imported", List.of("java.util.Arrays", "java.util.NoSuchElementException").contains(name), true);
        }
        Matcher thrown = Pattern.compile("throw (?!new NoSuchElementException\\()").matcher(bare);
        CHECK.due("nothing else is thrown", thrown.find(), false);
    }

    private static void methodsAreShort() throws Exception {
        int open = 0;
        int begun = 0;
        String[] lines = bare().split("\n");
        for (int i = 0; i < lines.length; i++) {
            if (lines[i].matches("\\s+.*\\) (throws \\w+ )?\\{") && !lines[i].matches("\\s+(if|for|while|switch|}).*")) {
                begun = i;
                open = lines[i].indexOf(lines[i].trim());
            }
            if (lines[i].equals(" ".repeat(open) + "}")) {
                CHECK.due("the method at line " + begun + " is short", i - begun <= 60, true);
            }
        }
    }
}
