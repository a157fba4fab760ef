import java.lang.reflect.Method;
import java.nio.file.DirectoryStream;
import java.nio.file.Files;
import java.nio.file.Path;
import java.util.ArrayList;
import java.util.Arrays;
import java.util.List;
import java.util.Set;
import java.util.TreeSet;
import java.util.regex.Matcher;
import java.util.regex.Pattern;

/**
 * Each of the 43 promises has tests of its boundary cases; and all that the terms and the promises say
 * is in the sentence of some test, but for what is listed here as naming no such case.
 */
public final class EdgeListTest {
    private static final Check CHECK = new Check("EdgeListTest");

    private static final Set<String> NAMES_NO_CASE = Set.of(
            "Terms I. THE TEXT of a BUS", "TOKENS", "LINE, one of", "a BOARD", "or",
            "II", "In a PASS some BOARDS are CONTENDERS", "TAKEN for 1 is a LINE by a BOARD at t",
            "III. THE RUN", "A TICK: 1", "2", "3", "4", "5",
            "ACTS: a BOARD asks; WAITS, or no more; a LINE sticks, is broken, or whole", "IV",
            "The constants", "the bus", "a pass of CONTENDERS (bits) by WORDS and LINES as they are",
            "the run as it is", "acts", "what is told", "Of a BOARD so far", "TROUBLE");

    private static final Pattern HEADINGS = Pattern.compile(
            "## Promise \\d+: [A-Za-z ]+ `[^`]*`:|Ahead of the calls [^-]* the interface says: ----|```text|```");

    private EdgeListTest() {
    }

    public static void main(String[] args) throws Exception {
        List<Edge> edges = edges();
        eachPromiseHasSome(edges);
        allIsInSomeSentence(edges, Edges.document());
        CHECK.end();
    }

    private static List<Edge> edges() throws Exception {
        List<Edge> edges = new ArrayList<>();
        try (DirectoryStream<Path> files = Files.newDirectoryStream(Path.of("src/test/java"), "*EdgeTest.java")) {
            for (Path file : files) {
                String name = file.getFileName().toString().replace(".java", "");
                for (Method test : Edges.of(Class.forName(name))) {
                    edges.add(test.getAnnotation(Edge.class));
                }
            }
        }
        return edges;
    }

    private static void eachPromiseHasSome(List<Edge> edges) {
        int[] tests = new int[44];
        TreeSet<String> sentences = new TreeSet<>();
        for (Edge edge : edges) {
            boolean exists = edge.promise() >= 1 && edge.promise() <= 43;
            CHECK.due("there is promise " + edge.promise(), exists, true);
            tests[exists ? edge.promise() : 0]++;
            sentences.add(edge.says());
        }
        for (int promise = 1; promise <= 43; promise++) {
            CHECK.due("promise " + promise + " has a test of a boundary case", tests[promise] > 0, true);
        }
        System.out.println(edges.size() + " tests of " + sentences.size() + " sentences");
    }

    private static void allIsInSomeSentence(List<Edge> edges, String document) {
        int end = document.indexOf("## Not promised");
        boolean[] told = new boolean[document.length()];
        Arrays.fill(told, 0, document.indexOf("## Terms"), true);
        Arrays.fill(told, end, told.length, true);
        Matcher heading = HEADINGS.matcher(document);
        while (heading.find()) {
            Arrays.fill(told, heading.start(), heading.end(), true);
        }
        for (Edge edge : edges) {
            tell(told, document, edge);
        }
        int from = 0;
        for (int at = 0; at <= end; at++) {
            if (at == end || told[at]) {
                untold(document.substring(from, at));
                from = at + 1;
            }
        }
    }

    /** A sentence stands in its promise or in the terms. */
    private static void tell(boolean[] told, String document, Edge edge) {
        String sentence = edge.says().replaceAll("\\s+", " ");
        int promise = document.indexOf("## Promise " + edge.promise() + ":");
        int end = document.indexOf(" ## ", promise);
        int at = document.indexOf(sentence, promise);
        if (at < 0 || at + sentence.length() > end) {
            at = document.indexOf(sentence, document.indexOf("## Terms"));
        }
        if (at >= 0) {
            Arrays.fill(told, at, at + sentence.length(), true);
        }
    }

    private static void untold(String rest) {
        String words = rest.replaceAll("^[^A-Za-z0-9]+|[^A-Za-z0-9)]+$", "");
        if (words.matches(".*[A-Za-z0-9].*")) {
            CHECK.due("has a test, or names no boundary case: " + words, NAMES_NO_CASE.contains(words), true);
        }
    }
}
