/** Counts and prints the answers that are not the ones that are due. */
final class Check {
    private static final int SHOWN = 40;

    private final String name;
    private String part = "";
    private int answers;
    private int wrong;

    Check(String name) {
        this.name = name;
    }

    /** The part of the tests that is told with each wrong answer from now on. */
    void enter(String name) {
        part = " " + name;
    }

    int answers() {
        return answers;
    }

    void due(String call, long got, long want) {
        answers++;
        if (got != want) {
            fail(call + " answered " + got + ", due is " + want);
        }
    }

    void due(String call, boolean got, boolean want) {
        due(call, got ? 1 : 0, want ? 1 : 0);
    }

    /** A call that is refused: the answer is NONE, and trouble() tells the number. */
    void refused(String call, OpenLines x, int got, int trouble) {
        due(call, got, OpenLines.NONE);
        due("trouble() behind " + call, x.trouble(), trouble);
    }

    /** A call that is not refused. */
    void told(String call, OpenLines x, int got, int want) {
        due(call, got, want);
        due("trouble() behind " + call, x.trouble(), 0);
    }

    void fail(String text) {
        wrong++;
        if (wrong <= SHOWN) {
            System.out.println(name + part + ": " + text);
        }
    }

    boolean isClean() {
        return wrong == 0;
    }

    void end() {
        System.out.println(name + ": " + answers + " answers, " + wrong + " wrong");
        if (wrong > 0) {
            System.exit(1);
        }
    }
}
