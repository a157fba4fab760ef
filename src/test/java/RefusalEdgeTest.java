import java.util.function.ToIntFunction;

/**
 * Every refusal (Terms, IV) of each call: the numbers next to its bounds on either side, the order in
 * which refusals are met, 1 without a BUS, and that nothing but TROUBLE changes.
 */
public final class RefusalEdgeTest {
    private static final Check CHECK = new Check("RefusalEdgeTest");
    private static final int MIN = Integer.MIN_VALUE;
    private static final int MAX = Integer.MAX_VALUE;

    /** There are boards 0 to 2, so CONTENDERS are 1 to 7. */
    private static final String RICH = Buses.print(Buses.rich());
    private static final int[] NO_BOARDS = {-1, -2, 3, 6, MIN, MAX};
    private static final int[] NO_PASSES = {0, 3, -1, MIN, MAX};
    private static final int[] NO_SETS = {0, 8, 9, 64, -1, MIN, MAX};
    private static final int[] NO_TICKS = {-1, 401, MIN, MAX};

    private RefusalEdgeTest() {
    }

    public static void main(String[] args) throws Exception {
        Edges.run(RefusalEdgeTest.class, CHECK);
    }

    private static void refused(String call, int trouble, ToIntFunction<OpenLines> of) {
        OpenLines x = Buses.rich();
        CHECK.refused(call, x, of.applyAsInt(x), trouble);
        CHECK.due(call + " changes nothing else", Buses.print(x).equals(RICH), true);
    }

    private static void withoutBus(String call, ToIntFunction<OpenLines> of) {
        OpenLines x = new OpenLines();
        CHECK.refused(call + " without a BUS", x, of.applyAsInt(x), 1);
        OpenLines y = new OpenLines();
        Texts.bus(y, Buses.text(1, 0, 20, 0, 5, 8));
        CHECK.refused(call + " behind a FAULT", y, of.applyAsInt(y), 1);
    }

    private static void told(String call, ToIntFunction<OpenLines> of) {
        OpenLines x = Buses.rich();
        x.now(99);
        CHECK.due(call + " is told", of.applyAsInt(x) != OpenLines.NONE, true);
        CHECK.due("trouble() behind " + call, x.trouble(), 0);
    }

    // ---- the bus

    @Edge(promise = 6, says = "NONE: 1 (what, too).")
    static void promise6About() {
        for (int what : new int[] {-1, 6, MIN, MAX}) {
            refused("about(" + what + ")", 1, x -> x.about(what));
        }
        for (int what = -1; what <= 6; what++) {
            int w = what;
            withoutBus("about(" + w + ")", x -> x.about(w));
        }
        told("about(0)", x -> x.about(0));
        told("about(5)", x -> x.about(5));
    }

    @Edge(promise = 7, says = "NONE: 1 (no such BOARD, what).")
    static void promise7Board() {
        for (int b : NO_BOARDS) {
            refused("board(" + b + ", 0)", 1, x -> x.board(b, 0));
        }
        for (int what : new int[] {-1, 7, MIN, MAX}) {
            refused("board(0, " + what + ")", 1, x -> x.board(0, what));
        }
        withoutBus("board(0, 0)", x -> x.board(0, 0));
        withoutBus("board(-1, 7)", x -> x.board(-1, 7));
        told("board(2, 5)", x -> x.board(2, 5));
        told("board(2, 6)", x -> x.board(2, 6));
    }

    @Edge(promise = 8, says = "The BOARD of a CODE. NONE: 1.")
    static void promise8Named() {
        for (int code : new int[] {-1, 0, 2, 6, 8, 31, 32, MIN, MAX}) {
            refused("named(" + code + ")", 1, x -> x.named(code));
        }
        withoutBus("named(1)", x -> x.named(1));
        withoutBus("named(0)", x -> x.named(0));
        told("named(1)", x -> x.named(1));
    }

    @Edge(promise = 9, says = "NONE: 1 (no such BOARD); 2.")
    static void promise9Word() {
        for (int b : NO_BOARDS) {
            refused("word(" + b + ", 1)", 1, x -> x.word(b, 1));
            refused("1 is met ahead of 2: word(" + b + ", 0)", 1, x -> x.word(b, 0));
        }
        for (int pass : NO_PASSES) {
            refused("word(2, " + pass + ")", 2, x -> x.word(2, pass));
        }
        withoutBus("word(0, 1)", x -> x.word(0, 1));
        withoutBus("word(0, 0)", x -> x.word(0, 0));
        told("word(2, 2)", x -> x.word(2, 2));
    }

    // ---- a pass

    /** A call of a PASS, CONTENDERS, a BOARD and a TICK (or a LINE). */
    private interface OfBoard {
        int of(OpenLines x, int pass, int set, int b, int t);
    }

    private static void ofBoard(String name, OfBoard call) {
        for (int b : NO_BOARDS) {
            refused(name + "(1, 7, " + b + ", 0)", 1, x -> call.of(x, 1, 7, b, 0));
            refused("1 is met ahead of 2: " + name + "(0, 0, " + b + ", -1)", 1, x -> call.of(x, 0, 0, b, -1));
        }
        for (int pass : NO_PASSES) {
            refused(name + "(" + pass + ", 7, 0, 0)", 2, x -> call.of(x, pass, 7, 0, 0));
        }
        for (int set : NO_SETS) {
            refused(name + "(1, " + set + ", 0, 0)", 2, x -> call.of(x, 1, set, 0, 0));
        }
        withoutBus(name + "(1, 1, 0, 0)", x -> call.of(x, 1, 1, 0, 0));
        withoutBus(name + "(0, 0, -1, 999)", x -> call.of(x, 0, 0, -1, 999));
        told(name + "(1, 1, 0, 0)", x -> call.of(x, 1, 1, 0, 0));
        told(name + "(2, 7, 2, 5)", x -> call.of(x, 2, 7, 2, 5));
    }

    private static void ofBoardAtTick(String name, OfBoard call) {
        ofBoard(name, call);
        for (int t : NO_TICKS) {
            refused(name + "(1, 7, 0, " + t + ")", 2, x -> call.of(x, 1, 7, 0, t));
        }
        told(name + "(2, 7, 2, 400)", x -> call.of(x, 2, 7, 2, 400));
    }

    @Edge(promise = 10, says = "(0 if it doesn't contend). NONE: 1; 2.")
    static void promise10Drives() {
        ofBoardAtTick("drives", OpenLines::drives);
    }

    @Edge(promise = 11, says = "LINES SEEN as 1 by it, as bits. NONE: 1; 2.")
    static void promise11Seen() {
        ofBoardAtTick("seen", OpenLines::seen);
    }

    @Edge(promise = 12, says = "LINES that it takes for 1. NONE: 1; 2.")
    static void promise12Taken() {
        ofBoardAtTick("taken", OpenLines::taken);
    }

    @Edge(promise = 13, says = "-2 (also if it doesn't contend). NONE: 1; 2.")
    static void promise13Withdrawn() {
        ofBoardAtTick("withdrawn", OpenLines::withdrawn);
    }

    @Edge(promise = 20, says = "NONE: 1 (no such BOARD, LINE); 2.")
    static void promise20Edges() {
        ofBoard("edges", OpenLines::edges);
        for (int line : new int[] {-1, 6, 7, MIN, MAX}) {
            refused("edges(1, 7, 0, " + line + ")", 1, x -> x.edges(1, 7, 0, line));
            refused("1 is met ahead of 2: edges(3, 0, 0, " + line + ")", 1, x -> x.edges(3, 0, 0, line));
        }
    }

    @Edge(promise = 14, says = "1 (no BUS; no such BOARD); 2 (PASS, no CONTENDERS or one that there isn't, TICK: 0 .. 400)")
    static void promise14ContendersOfOneToSixBoards() {
        for (int boards = 1; boards <= 6; boards++) {
            int[] told = new int[3 * boards];
            for (int b = 0; b < boards; b++) {
                told[3 * b] = b;
                told[3 * b + 1] = b + 1;
            }
            OpenLines x = Texts.made(Buses.text(1, 0, 20, told));
            int sets = 1 << boards;
            CHECK.told("the first one alone", x, x.winners(2, 1, 400), 1);
            CHECK.told("the last one alone", x, x.winners(2, sets / 2, 400), sets / 2);
            CHECK.told("all at 0", x, x.winners(2, sets - 1, 0), sets - 1);
            CHECK.refused("none", x, x.winners(2, 0, 0), 2);
            CHECK.refused("one that there isn't", x, x.winners(2, sets, 0), 2);
            CHECK.refused("it and others", x, x.winners(2, sets | 1, 0), 2);
            CHECK.refused("far beyond", x, x.winners(2, 1 << 31 | 1, 0), 2);
        }
    }

    /** A call of a PASS, CONTENDERS and, perhaps, a TICK. */
    private interface OfSet {
        int of(OpenLines x, int pass, int set, int t);
    }

    private static void ofSet(String name, OfSet call) {
        for (int pass : NO_PASSES) {
            refused(name + " of PASS " + pass, 2, x -> call.of(x, pass, 7, 0));
        }
        for (int set : NO_SETS) {
            refused(name + " of CONTENDERS " + set, 2, x -> call.of(x, 2, set, 0));
        }
        withoutBus(name + " of what there may be", x -> call.of(x, 1, 1, 0));
        withoutBus(name + " of no PASS, CONTENDERS, TICK", x -> call.of(x, 0, 0, -1));
        told(name + " of the first", x -> call.of(x, 1, 1, 0));
        told(name + " of the last", x -> call.of(x, 2, 7, 0));
    }

    private static void ofSetAtTick(String name, OfSet call) {
        ofSet(name, call);
        for (int t : NO_TICKS) {
            refused(name + " at " + t, 2, x -> call.of(x, 2, 7, t));
        }
        told(name + " at 400", x -> call.of(x, 2, 7, 400));
    }

    @Edge(promise = 14, says = "WINNERS at a TICK, as bits. NONE: 1 (no BUS); 2.")
    static void promise14Winners() {
        ofSetAtTick("winners", OpenLines::winners);
    }

    @Edge(promise = 15, says = "The TICK at which all are SETTLED. NONE: 1; 2.")
    static void promise15Settles() {
        ofSet("settles", (x, pass, set, t) -> x.settles(pass, set));
    }

    @Edge(promise = 16, says = "SURE; -2. NONE: 1; 2.")
    static void promise16Sure() {
        ofSet("sure", (x, pass, set, t) -> x.sure(pass, set));
    }

    @Edge(promise = 17, says = "RIGHT, as bits. NONE: 1; 2.")
    static void promise17Right() {
        ofSet("right", (x, pass, set, t) -> x.right(pass, set));
    }

    @Edge(promise = 18, says = "How many DIPS there are till TICK 400. NONE: 1; 2.")
    static void promise18Dips() {
        ofSet("dips", (x, pass, set, t) -> x.dips(pass, set));
    }

    @Edge(promise = 19, says = "1 if a PASS is FAULTY at a TICK (in place of WINDOW), 0. NONE: 1; 2.")
    static void promise19Faulty() {
        ofSetAtTick("faulty", OpenLines::faulty);
    }

    @Edge(promise = 21, says = "-2 none is. NONE: 1; 2.")
    static void promise21Filters() {
        ofSet("filters", (x, pass, set, t) -> x.filters(pass, set));
    }

    @Edge(promise = 22, says = "NONE: 1; 2 (PASS).")
    static void promise22Slowest() {
        for (int pass : NO_PASSES) {
            refused("slowest(" + pass + ")", 2, x -> x.slowest(pass));
            withoutBus("slowest(" + pass + ")", x -> x.slowest(pass));
        }
        withoutBus("slowest(1)", x -> x.slowest(1));
        told("slowest(1)", x -> x.slowest(1));
        told("slowest(2)", x -> x.slowest(2));
    }

    @Edge(promise = 23, says = "NONE: 1; 2 (PASS, TICK).")
    static void promise23Settled() {
        for (int pass : NO_PASSES) {
            refused("settled(" + pass + ", 0)", 2, x -> x.settled(pass, 0));
        }
        for (int t : NO_TICKS) {
            refused("settled(1, " + t + ")", 2, x -> x.settled(1, t));
        }
        withoutBus("settled(1, 0)", x -> x.settled(1, 0));
        withoutBus("settled(0, -1)", x -> x.settled(0, -1));
        told("settled(1, 0)", x -> x.settled(1, 0));
        told("settled(2, 400)", x -> x.settled(2, 400));
    }

    @Edge(promise = 24, says = "NONE: 1; 2 (PASS).")
    static void promise24Enough() {
        for (int pass : NO_PASSES) {
            refused("enough(" + pass + ")", 2, x -> x.enough(pass));
            withoutBus("enough(" + pass + ")", x -> x.enough(pass));
        }
        withoutBus("enough(2)", x -> x.enough(2));
        told("enough(1)", x -> x.enough(1));
        told("enough(2)", x -> x.enough(2));
    }

    @Edge(promise = 25, says = "NONE: 1 (no BUS); 2 (CONTENDERS).")
    static void promise25Would() {
        for (int set : NO_SETS) {
            refused("would(" + set + ")", 2, x -> x.would(set));
            withoutBus("would(" + set + ")", x -> x.would(set));
        }
        withoutBus("would(1)", x -> x.would(1));
        told("would(1)", x -> x.would(1));
        told("would(7)", x -> x.would(7));
    }

    // ---- the run

    @Edge(promise = 26, says = "NONE: 1 (what, too).")
    static void promise26Now() {
        for (int what : new int[] {-1, 11, MIN, MAX}) {
            refused("now(" + what + ")", 1, x -> x.now(what));
        }
        withoutBus("now(0)", x -> x.now(0));
        withoutBus("now(10)", x -> x.now(10));
        withoutBus("now(11)", x -> x.now(11));
        told("now(0)", x -> x.now(0));
        told("now(10)", x -> x.now(10));
    }

    @Edge(promise = 27, says = "NONE: 1 (what, too).")
    static void promise27Ledger() {
        for (int b : NO_BOARDS) {
            refused("ledger(" + b + ", 0)", 1, x -> x.ledger(b, 0));
        }
        for (int what : new int[] {-1, 6, MIN, MAX}) {
            refused("ledger(0, " + what + ")", 1, x -> x.ledger(0, what));
        }
        withoutBus("ledger(0, 0)", x -> x.ledger(0, 0));
        withoutBus("ledger(0, 6)", x -> x.ledger(0, 6));
        told("ledger(0, 0)", x -> x.ledger(0, 0));
        told("ledger(2, 5)", x -> x.ledger(2, 5));
    }

    @Edge(promise = 28, says = "NONE: 1 (i, what, too).")
    static void promise28Log() {
        for (int i : new int[] {-1, 2, 15, 16, MIN, MAX}) {
            refused("log(" + i + ", 0) of two", 1, x -> x.log(i, 0));
        }
        for (int what : new int[] {-1, 6, MIN, MAX}) {
            refused("log(0, " + what + ")", 1, x -> x.log(0, what));
        }
        withoutBus("log(0, 0)", x -> x.log(0, 0));
        withoutBus("log(-1, 6)", x -> x.log(-1, 6));
        told("log(0, 0)", x -> x.log(0, 0));
        told("log(1, 5)", x -> x.log(1, 5));
    }

    @Edge(promise = 29, says = "NONE: 1 (no BUS); 2.")
    static void promise29Past() {
        for (int i : new int[] {-1, 64, 65, MIN, MAX}) {
            refused("past(" + i + ")", 2, x -> x.past(i));
            withoutBus("past(" + i + ")", x -> x.past(i));
        }
        withoutBus("past(0)", x -> x.past(0));
        told("past(0)", x -> x.past(0));
        told("past(63)", x -> x.past(63));
    }

    @Edge(promise = 30, says = "NONE: 1 (no BUS).")
    static void promise30Idle() {
        withoutBus("idle()", OpenLines::idle);
        told("idle()", OpenLines::idle);
    }

    @Edge(promise = 31, says = "BOARDS that WAIT for one, by others, too, as bits. NONE: 1.")
    static void promise31Waiting() {
        for (int b : NO_BOARDS) {
            refused("waiting(" + b + ")", 1, x -> x.waiting(b));
            withoutBus("waiting(" + b + ")", x -> x.waiting(b));
        }
        withoutBus("waiting(0)", x -> x.waiting(0));
        told("waiting(0)", x -> x.waiting(0));
        told("waiting(2)", x -> x.waiting(2));
    }

    @Edge(promise = 32, says = "-2 none ASKS. NONE: 1 (no BUS).")
    static void promise32Longest() {
        withoutBus("longest()", OpenLines::longest);
        told("longest()", OpenLines::longest);
    }

    @Edge(promise = 33, says = "NONE: 1 (what, too); 2.")
    static void promise33Will() {
        for (int what : new int[] {-1, 11, MIN, MAX}) {
            refused("will(1, " + what + ")", 1, x -> x.will(1, what));
            refused("1 is met ahead of 2: will(0, " + what + ")", 1, x -> x.will(0, what));
        }
        for (int n : new int[] {0, -1, 1000, MIN, MAX}) {
            refused("will(" + n + ", 0)", 2, x -> x.will(n, 0));
            withoutBus("will(" + n + ", 0)", x -> x.will(n, 0));
        }
        withoutBus("will(1, 0)", x -> x.will(1, 0));
        told("will(1, 0)", x -> x.will(1, 0));
        told("will(999, 10)", x -> x.will(999, 10));
    }

    @Edge(promise = 34, says = "-2 not so soon. NONE: 1.")
    static void promise34Till() {
        for (int b : NO_BOARDS) {
            refused("till(" + b + ")", 1, x -> x.till(b));
            withoutBus("till(" + b + ")", x -> x.till(b));
        }
        withoutBus("till(0)", x -> x.till(0));
        told("till(0)", x -> x.till(0));
        told("till(2)", x -> x.till(2));
    }

    // ---- acts

    @Edge(promise = 35, says = "NONE: 1; 2; 5 (REFUSED, counted)")
    static void promise35AskByOneAndTwo() {
        for (int b : NO_BOARDS) {
            refused("ask(" + b + ", 1)", 1, x -> x.ask(b, 1));
            refused("1 is met ahead of 2: ask(" + b + ", 0)", 1, x -> x.ask(b, 0));
        }
        for (int ticks : new int[] {0, -1, 100, MIN, MAX}) {
            for (int b = 0; b < 3; b++) {
                int asker = b;
                refused("2 is met ahead of 5: ask(" + b + ", " + ticks + ")", 2, x -> x.ask(asker, ticks));
            }
        }
        withoutBus("ask(0, 1)", x -> x.ask(0, 1));
        withoutBus("ask(0, 0)", x -> x.ask(0, 0));
    }

    @Edge(promise = 35, says = "5 (REFUSED, counted)")
    static void promise35AskByFive() {
        for (int b = 0; b < 3; b++) {
            OpenLines x = Buses.rich();
            int before = x.ledger(b, 2);
            CHECK.refused("MASTER, ELECT, or one that ASKS: ask(" + b + ", 7)", x, x.ask(b, 7), 5);
            CHECK.told("REFUSED is counted", x, x.ledger(b, 2), before + 1);
            x.ask(b, 99);
            CHECK.told("again", x, x.ledger(b, 2), before + 2);
            CHECK.due("nothing else changes", withoutRefused(x, b).equals(withoutRefused(Buses.rich(), b)), true);
        }
    }

    /** All but how often a board was REFUSED. */
    private static String withoutRefused(OpenLines x, int b) {
        StringBuilder text = new StringBuilder();
        for (int other = 0; other < 3; other++) {
            for (int what = 0; what < 7; what++) {
                text.append(x.board(other, what)).append(' ');
            }
            for (int what = 0; what < 6; what++) {
                text.append(what == 2 && other == b ? 0 : x.ledger(other, what)).append(' ');
            }
        }
        for (int what = 0; what < 11; what++) {
            text.append(x.now(what)).append(' ').append(x.will(99, what)).append(' ');
        }
        return text.append(x.longest()).append(x.size(1)).append(x.size(2)).append(x.size(3)).toString();
    }

    @Edge(promise = 36, says = "NONE: 1; 2 (no such one; itself); 5 (that one waits for it, by others, too).")
    static void promise36Waits() {
        for (int b : NO_BOARDS) {
            refused("waits(" + b + ", -1)", 1, x -> x.waits(b, -1));
            refused("1 is met ahead of 2: waits(" + b + ", 9)", 1, x -> x.waits(b, 9));
            refused("1 is met ahead of 2: waits(" + b + ", itself)", 1, x -> x.waits(b, b));
        }
        for (int other : new int[] {3, 6, -2, MIN, MAX}) {
            refused("no such one: waits(1, " + other + ")", 2, x -> x.waits(1, other));
        }
        for (int b = 0; b < 3; b++) {
            int itself = b;
            refused("itself: waits(" + b + ", " + b + ")", 2, x -> x.waits(itself, itself));
        }
        refused("that one waits for it: waits(0, 2)", 5, x -> x.waits(0, 2));
        withoutBus("waits(0, 1)", x -> x.waits(0, 1));
        withoutBus("waits(0, -1)", x -> x.waits(0, -1));
        withoutBus("waits(0, 0)", x -> x.waits(0, 0));
        told("waits(1, 2)", x -> x.waits(1, 2));
        told("waits(1, -1)", x -> x.waits(1, -1));
    }

    @Edge(promise = 37, says = "NONE: 1 (no such LINE); 2.")
    static void promise37Stick() {
        for (int line : new int[] {-1, 6, 7, MIN, MAX}) {
            refused("stick(" + line + ", 0)", 1, x -> x.stick(line, 0));
            refused("1 is met ahead of 2: stick(" + line + ", 3)", 1, x -> x.stick(line, 3));
        }
        for (int how : new int[] {-1, 3, MIN, MAX}) {
            refused("stick(0, " + how + ")", 2, x -> x.stick(0, how));
            withoutBus("stick(0, " + how + ")", x -> x.stick(0, how));
        }
        withoutBus("stick(0, 0)", x -> x.stick(0, 0));
        told("stick(0, 0)", x -> x.stick(0, 0));
        told("stick(5, 2)", x -> x.stick(5, 2));
    }

    @Edge(promise = 38, says = "n TICKS (1 .. 999): the MASTER then (-2). NONE: 1; 2.")
    static void promise38Ticks() {
        for (int n : new int[] {0, -1, 1000, MIN, MAX}) {
            refused("ticks(" + n + ")", 2, x -> x.ticks(n));
            withoutBus("ticks(" + n + ")", x -> x.ticks(n));
        }
        withoutBus("ticks(1)", x -> x.ticks(1));
        told("ticks(1)", x -> x.ticks(1));
        told("ticks(999)", x -> x.ticks(999));
    }

    @Edge(promise = 39, says = "false: 1 (no BUS).")
    static void promise39Keep() {
        withoutBus("keep()", x -> x.keep() ? 1 : -1);
        OpenLines x = new OpenLines();
        x.keep();
        CHECK.due("nothing is kept: size(2)", x.size(2), 0);
        told("keep()", y -> y.keep() ? 1 : -1);
    }

    @Edge(promise = 40, says = "false: 1 (nothing is).")
    static void promise40Back() {
        withoutBus("back()", x -> x.back() ? 1 : -1);
        OpenLines x = Texts.made(Buses.THREE);
        x.ask(1, 7);
        x.ticks(3);
        String before = Buses.state(x);
        CHECK.due("back()", x.back(), false);
        CHECK.due("trouble()", x.trouble(), 1);
        CHECK.due("nothing else changes", Buses.state(x).equals(before), true);
        told("back()", y -> y.back() ? 1 : -1);
    }

    @Edge(promise = 43, says = "1 is also told without a BUS.")
    static void promise43RefusalsWithoutABusChangeNothing() {
        OpenLines x = new OpenLines();
        Texts.feed(x, Buses.TWO);
        int bytes = x.size(0);
        x.ask(0, 1);
        x.stick(0, 1);
        x.ticks(1);
        x.waits(0, 1);
        x.keep();
        x.back();
        CHECK.due("size(0)", x.size(0), bytes);
        CHECK.due("size(2)", x.size(2), 0);
        CHECK.due("size(3)", x.size(3), 0);
        x.bus(Buses.TWO.length());
        CHECK.due("as if they had not been", Buses.print(x).equals(Buses.print(Texts.made(Buses.TWO))), true);
    }
}
