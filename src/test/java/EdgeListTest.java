import java.lang.reflect.Method;
import java.nio.file.DirectoryStream;
import java.nio.file.Files;
import java.nio.file.Path;
import java.util.TreeSet;

/** Each of the 43 promises has tests of its boundary cases, and so has each numbered part of the terms. */
public final class EdgeListTest {
    private static final Check CHECK = new Check("EdgeListTest");

    private EdgeListTest() {
    }

    public static void main(String[] args) throws Exception {
        int[] tests = new int[44];
        TreeSet<String> sentences = new TreeSet<>();
        try (DirectoryStream<Path> files = Files.newDirectoryStream(Path.of("src/test/java"), "*EdgeTest.java")) {
            for (Path file : files) {
                String name = file.getFileName().toString().replace(".java", "");
                for (Method test : Edges.of(Class.forName(name))) {
                    Edge edge = test.getAnnotation(Edge.class);
                    CHECK.due("there is promise " + edge.promise(), edge.promise() >= 1 && edge.promise() <= 43, true);
                    tests[edge.promise()]++;
                    sentences.add(edge.says());
                }
            }
        }
        int count = 0;
        for (int promise = 1; promise <= 43; promise++) {
            CHECK.due("promise " + promise + " has a test of a boundary case", tests[promise] > 0, true);
            count += tests[promise];
        }
        System.out.println(count + " tests of " + sentences.size() + " sentences");
        CHECK.end();
    }
}
