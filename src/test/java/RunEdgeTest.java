/** Boundary cases of promises 26 to 28 (Terms, III): a TICK step by step, the ledger and THE LOG. */
public final class RunEdgeTest {
    private static final Check CHECK = new Check("RunEdgeTest");

    /** Of RANKS 2, 3, 3 and 4, next to one another; an ARBITRATION lasts 40 TICKS. */
    private static final String FOUR = Buses.text(1, 0, 20, 0, 1, 2, 1, 2, 3, 2, 4, 3, 3, 8, 4);

    private RunEdgeTest() {
    }

    public static void main(String[] args) throws Exception {
        Edges.run(RunEdgeTest.class, CHECK);
    }

    private static OpenLines alone(int window) {
        return Texts.made(Buses.text(1, 0, window, 4, 8, 0));
    }

    private static void now(OpenLines x, int what, int want) {
        CHECK.told("now(" + what + ") at " + x.about(5), x, x.now(what), want);
    }

    private static void ledger(OpenLines x, int b, int what, int want) {
        CHECK.told("ledger(" + b + ", " + what + ") at " + x.about(5), x, x.ledger(b, what), want);
    }

    private static void log(OpenLines x, int i, int... want) {
        for (int what = 0; what < want.length; what++) {
            CHECK.told("log(" + i + ", " + what + ")", x, x.log(i, what), want[what]);
        }
    }

    /** a is MASTER from 41 to 90, b is ELECT at 82; TIME is 82. */
    private static OpenLines masterAndElect() {
        OpenLines x = Texts.made(FOUR);
        x.ask(0, 50);
        x.ticks(41);
        x.ask(1, 5);
        x.ticks(41);
        now(x, 0, 0);
        now(x, 1, 91);
        now(x, 2, 1);
        now(x, 3, -2);
        return x;
    }

    // ---- promise 26: a TICK

    @Edge(promise = 26, says = "TIME is 0 at first.")
    static void promise26AtFirst() {
        OpenLines x = Texts.made(FOUR);
        int[] want = {-2, -2, -2, -2, 0, 0, 0, 0, 0, 0, 0};
        for (int what = 0; what <= 10; what++) {
            now(x, what, want[what]);
        }
    }

    @Edge(promise = 26, says = "0 the MASTER (-2 none), 1 the TIME till which (-2), 2 ELECT (-2), 3 the TIME at which the ARBITRATION is through (-2 none goes on)")
    static void promise26EachOrNone() {
        int[][] told = {{0, -2, -2, -2, -2}, {1, -2, -2, -2, 41}, {41, 0, 91, -2, -2}, {42, 0, 91, -2, 82}, {82, 0, 91, 1, -2},
            {83, 0, 91, 1, 123}, {91, -2, -2, 1, 123}, {123, 3, 128, -2, 163}, {128, -2, -2, -2, 163}, {163, 1, 168, -2, -2}, {168, -2, -2, -2, -2}};
        OpenLines x = Texts.made(FOUR + ";ask 1 a 50;ask 42 b 5;ask 83 d 5");
        for (int[] want : told) {
            int left = want[0] - x.about(5);
            if (left > 0) {
                x.ticks(left);
            }
            for (int what = 0; what <= 3; what++) {
                now(x, what, want[what + 1]);
            }
        }
    }

    @Edge(promise = 26, says = "6 ROUNDS begun, 7 ARBITRATIONS through, 8 those that FAILED, 9 FAULTY PASSES of those through, 10 how often one was PUT OFF.")
    static void promise26EachIsCounted() {
        OpenLines x = masterAndElect();
        x.ask(3, 5);
        int[] ahead = {0, 2, 0, 0, 0};
        int[] putOff = {0, 3, 0, 0, 1};
        int[] failed = {0, 4, 1, 1, 1};
        int[] round = {1, 5, 1, 1, 1};
        counts(x, ahead);
        x.ticks(40);
        counts(x, ahead);
        x.ticks(1);
        counts(x, putOff);
        // b ASKS alone, of WORD 011001: it withdraws to LINE 2, and all see LINES 4 to 1
        x.stick(2, 1);
        x.stick(1, 1);
        x.ticks(40);
        counts(x, failed);
        x.stick(2, 0);
        x.stick(1, 0);
        x.ticks(39);
        counts(x, failed);
        x.ticks(1);
        counts(x, round);
    }

    private static void counts(OpenLines x, int[] want) {
        for (int i = 0; i < want.length; i++) {
            now(x, 6 + i, want[i]);
        }
    }

    @Edge(promise = 26, says = "TIME is 1 more; BOARDS ASK, as told for that TIME.")
    static void promise26AsToldForThatTime() {
        OpenLines x = Texts.made(FOUR + ";ask 1 a 1;ask 7 b 1;ask 7 c 1");
        now(x, 5, 0);
        x.ticks(1);
        now(x, 5, 1);
        now(x, 3, 41);
        x.ticks(5);
        now(x, 5, 1);
        x.ticks(1);
        now(x, 5, 7);
        now(x, 4, 1);
    }

    @Edge(promise = 26, says = "Is an ARBITRATION through (twice WINDOW behind its beginning)")
    static void promise26TwiceWindow() {
        for (int window : new int[] {1, 2, 199, 200}) {
            OpenLines x = alone(window);
            x.ask(0, 1);
            now(x, 3, -2);
            x.ticks(1);
            now(x, 3, 1 + 2 * window);
            now(x, 4, 1);
            x.ticks(2 * window - 1);
            now(x, 3, 1 + 2 * window);
            now(x, 7, 0);
            x.ticks(1);
            now(x, 3, -2);
            now(x, 4, 0);
            now(x, 7, 1);
        }
    }

    @Edge(promise = 26, says = "Is the MASTER's time through, there is none.")
    static void promise26MasterFor1TickOr99() {
        for (int ticks : new int[] {1, 2, 99}) {
            OpenLines x = alone(1);
            x.ask(0, ticks);
            CHECK.told("ahead of it", x, x.ticks(2), -2);
            CHECK.told("the first TICK", x, x.ticks(1), 0);
            now(x, 1, 3 + ticks);
            if (ticks > 1) {
                CHECK.told("the last TICK", x, x.ticks(ticks - 1), 0);
            }
            CHECK.told("behind it", x, x.ticks(1), -2);
            now(x, 1, -2);
            CHECK.told("TIME", x, x.about(5), 3 + ticks);
        }
    }

    @Edge(promise = 26, says = "ELECT is MASTER, for as many TICKS as it asked for (it ASKS no more; none is ELECT).")
    static void promise26ElectIsMasterAtOnce() {
        OpenLines x = alone(1);
        x.ask(0, 9);
        x.ticks(3);
        now(x, 0, 0);
        now(x, 2, -2);
        now(x, 5, 0);
    }

    @Edge(promise = 26, says = "If there is no MASTER, an ELECT, and no ARBITRATION goes on: ELECT is MASTER")
    static void promise26ElectBehindTheMaster() {
        OpenLines x = masterAndElect();
        CHECK.told("the MASTER's last TICK", x, x.ticks(8), 0);
        now(x, 2, 1);
        now(x, 5, 2);
        CHECK.told("its time is through, and ELECT is MASTER", x, x.ticks(1), 1);
        now(x, 1, 96);
        now(x, 2, -2);
        now(x, 5, 0);
    }

    @Edge(promise = 26, says = "If there is no MASTER, an ELECT, and no ARBITRATION goes on: ELECT is MASTER")
    static void promise26ElectWhileAnArbitrationGoesOn() {
        OpenLines x = masterAndElect();
        x.ask(3, 5);
        x.ticks(1);
        now(x, 3, 123);
        CHECK.told("the MASTER's time is through", x, x.ticks(8), -2);
        now(x, 2, 1);
        CHECK.told("none till it is through", x, x.ticks(31), -2);
        now(x, 2, 1);
        CHECK.told("the greater one then", x, x.ticks(1), 3);
        CHECK.told("TIME", x, x.about(5), 123);
        now(x, 10, 1);
    }

    @Edge(promise = 26, says = "some that ASKS has a greater RANK OF THE DAY than ELECT: one begins, of all that ASK.")
    static void promise26LikeAndGreaterRank() {
        OpenLines x = masterAndElect();
        x.ask(2, 5);
        x.ticks(1);
        now(x, 3, -2);
        x.ask(3, 5);
        x.ticks(1);
        now(x, 3, 124);
        now(x, 4, 14);
    }

    @Edge(promise = 26, says = "some that ASKS has a greater RANK OF THE DAY than ELECT: one begins, of all that ASK.")
    static void promise26RankOfTheDayOfOneThatAsks() {
        OpenLines x = masterAndElect();
        x.ask(2, 5);
        x.waits(3, 2);
        CHECK.told("a RANK handed on to one that ASKS", x, x.will(1, 3), 123);
        x.waits(3, 1);
        CHECK.told("to ELECT", x, x.will(1, 3), -2);
        x.waits(3, 0);
        CHECK.told("to the MASTER, which doesn't ASK", x, x.will(1, 3), -2);
    }

    /** f is MASTER and e ELECT; of the others a alone is of a greater RANK, and ASKS for the least time. */
    @Edge(promise = 26, says = "some that ASKS has a greater RANK OF THE DAY than ELECT: one begins, of all that ASK.")
    static void promise26FirstOfSixIsGreater() {
        OpenLines x = Texts.made(Buses.text(1, 0, 5, 0, 1, 7, 1, 2, 6, 2, 4, 6, 3, 8, 6, 4, 16, 6, 5, 31, 6));
        x.ask(5, 50);
        x.ticks(11);
        x.ask(4, 1);
        x.ticks(11);
        now(x, 0, 5);
        now(x, 2, 4);
        x.ask(1, 1);
        x.ask(3, 99);
        x.ticks(1);
        now(x, 3, -2);
        x.ask(0, 1);
        x.ticks(1);
        now(x, 3, 34);
        now(x, 4, 0b011011);
    }

    @Edge(promise = 26, says = "some that ASKS has a greater RANK OF THE DAY than ELECT: one begins, of all that ASK.")
    static void promise26LastOfSixIsGreater() {
        OpenLines x = Texts.made(Buses.text(1, 0, 5, 0, 1, 6, 1, 2, 6, 2, 4, 6, 3, 8, 6, 4, 16, 6, 5, 31, 7));
        x.ask(0, 50);
        x.ticks(11);
        x.ask(1, 1);
        x.ticks(11);
        now(x, 0, 0);
        now(x, 2, 1);
        x.ask(5, 1);
        x.ticks(1);
        now(x, 3, 33);
        now(x, 4, 0b100010);
    }

    @Edge(promise = 26, says = "If no ARBITRATION goes on, and either none is ELECT and some BOARD ASKS")
    static void promise26NoneBeginsWhileOneGoesOn() {
        OpenLines x = Texts.made(FOUR);
        x.ask(0, 1);
        x.ticks(1);
        x.ask(3, 1);
        x.ticks(39);
        now(x, 3, 41);
        now(x, 4, 1);
        now(x, 5, 9);
        x.ticks(1);
        now(x, 0, 0);
        now(x, 3, 81);
        now(x, 4, 8);
    }

    @Edge(promise = 26, says = "If no ARBITRATION goes on, and either none is ELECT and some BOARD ASKS")
    static void promise26NoneBeginsWithoutOneThatAsks() {
        OpenLines x = Texts.made(FOUR);
        x.ticks(999);
        now(x, 3, -2);
        now(x, 7, 0);
        x.ask(0, 1);
        x.ticks(1);
        now(x, 3, 1040);
    }

    @Edge(promise = 26, says = "is there one WINNER at WINDOW of it, that is ELECT")
    static void promise26SeveralWinners() {
        OpenLines x = Texts.made(Buses.text(1, 0, 8, 0, 8, 0, 9, 16, 0));
        x.ask(0, 1);
        x.ask(1, 1);
        x.ticks(17);
        now(x, 2, -2);
        now(x, 8, 1);
        now(x, 3, 33);
        now(x, 4, 3);
        log(x, 0, 17, 3, 3, 3, -2);
    }

    @Edge(promise = 26, says = "else it FAILED, and none is ELECT.")
    static void promise26NoWinner() {
        OpenLines x = Texts.made(Buses.text(1, 0, 9, 0, 8, 0, 9, 16, 0));
        x.ask(0, 1);
        x.ask(1, 1);
        x.ticks(19);
        now(x, 2, -2);
        now(x, 8, 1);
        log(x, 0, 19, 3, 3, 0, -2);
        CHECK.told("nobody's turn is spent", x, x.board(0, 4) + x.board(1, 4), 2);
        CHECK.told("all still ASK", x, x.now(5), 3);
    }

    @Edge(promise = 26, says = "else it FAILED, and none is ELECT.")
    static void promise26ElectNoMoreBehindAFailure() {
        OpenLines x = masterAndElect();
        x.ask(3, 5);
        x.ticks(1);
        x.stick(1, 1);
        x.ticks(7);
        now(x, 2, 1);
        x.ticks(33);
        CHECK.told("TIME", x, x.about(5), 123);
        now(x, 2, -2);
        now(x, 0, -2);
        now(x, 8, 1);
        now(x, 10, 0);
        ledger(x, 1, 3, 0);
        now(x, 4, 10);
    }

    @Edge(promise = 26, says = "contend in PASS 2 (it isn't made without any)")
    static void promise26Pass2IsNotMade() {
        OpenLines x = Texts.made(Buses.text(1, 0, 20, 0, 31, 0));
        x.stick(5, 1);
        x.ask(0, 1);
        x.ticks(41);
        log(x, 0, 41, 1, 0, 0, -2, 0);
        now(x, 8, 1);
        x.stick(4, 1);
        x.ticks(40);
        log(x, 0, 81, 1, 0, 0, -2, 1);
        now(x, 9, 1);
    }

    @Edge(promise = 26, says = "(was another one ELECT till then, that is PUT OFF)")
    static void promise26PutOffOnlyByAnother() {
        OpenLines x = masterAndElect();
        x.ask(3, 5);
        x.ticks(1);
        now(x, 10, 0);
        x.ticks(40);
        now(x, 10, 1);
        ledger(x, 1, 3, 1);
        ledger(x, 3, 3, 0);
        CHECK.told("who is PUT OFF still ASKS", x, x.board(1, 5), 5);
    }

    /** d, of a greater RANK, isn't seen by b: LINE 5 is BROKEN, and d has it alone. */
    @Edge(promise = 26, says = "(was another one ELECT till then, that is PUT OFF)")
    static void promise26TheSameAgainIsNotPutOff() {
        OpenLines x = masterAndElect();
        x.ask(3, 5);
        x.stick(5, 2);
        x.ticks(41);
        log(x, 0, 123, 10, 2, 2, 1);
        now(x, 10, 0);
        ledger(x, 1, 3, 0);
        ledger(x, 1, 5, 2);
        now(x, 6, 1);
    }

    @Edge(promise = 26, says = "ELECT as it wasn't FRESH: a ROUND begins: all are FRESH first; then ELECT is FRESH no more.")
    static void promise26ARoundBegins() {
        OpenLines x = Texts.made(Buses.text(1, 0, 5, 0, 1, 0, 1, 2, 0, 2, 4, 0));
        int[] askers = {0, 2, 0, 0};
        int[] rounds = {0, 0, 1, 2};
        int[] fresh = {6, 2, 6, 6};
        for (int i = 0; i < askers.length; i++) {
            x.ask(askers[i], 1);
            x.ticks(12);
            now(x, 6, rounds[i]);
            int set = x.board(0, 4) | x.board(1, 4) << 1 | x.board(2, 4) << 2;
            CHECK.told("FRESH", x, set, fresh[i]);
        }
    }

    @Edge(promise = 26, says = "ELECT as it wasn't FRESH: a ROUND begins: all are FRESH first; then ELECT is FRESH no more.")
    static void promise26ARoundBegunByEach() {
        for (int b = 0; b < 3; b++) {
            OpenLines x = Texts.made(Buses.text(1, 0, 5, 0, 1, 0, 1, 2, 0, 2, 4, 0));
            int[] askers = {0, 1, 2, b};
            int[] fresh = {6, 4, 0, 7 - (1 << b)};
            for (int i = 0; i < askers.length; i++) {
                x.ask(askers[i], 1);
                x.ticks(12);
                int set = x.board(0, 4) | x.board(1, 4) << 1 | x.board(2, 4) << 2;
                CHECK.told("FRESH", x, set, fresh[i]);
                now(x, 6, i / 3);
            }
        }
    }

    @Edge(promise = 26, says = "ELECT as it wasn't FRESH: a ROUND begins")
    static void promise26NoRoundWhileSomeAreFresh() {
        OpenLines x = Texts.made(Buses.text(1, 0, 5, 0, 1, 0, 1, 2, 0));
        x.ask(1, 1);
        x.ticks(12);
        x.ask(0, 1);
        x.ask(1, 1);
        CHECK.told("who is FRESH, though its CODE is less", x, x.ticks(11), 0);
        now(x, 6, 0);
        CHECK.told("none is FRESH, but no ROUND begins by that", x, x.board(0, 4) + x.board(1, 4), 0);
        CHECK.told("the other one", x, x.ticks(10), 1);
        now(x, 6, 1);
    }

    @Edge(promise = 26, says = "of its CONTENDERS, as its WORDS were when it began")
    static void promise26WordsAsTheyWere() {
        OpenLines x = Texts.made(FOUR);
        x.ask(0, 1);
        x.ask(1, 1);
        x.ticks(1);
        x.waits(3, 0);
        CHECK.told("a RANK handed on too late", x, x.ticks(40), 1);
        now(x, 4, 1);
        OpenLines y = Texts.made(FOUR);
        y.waits(3, 0);
        y.ask(0, 1);
        y.ask(1, 1);
        y.ticks(1);
        y.waits(3, -1);
        CHECK.told("a RANK withdrawn too late", y, y.ticks(40), 0);
    }

    @Edge(promise = 26, says = "By LINES as they are when the ARBITRATION is through.")
    static void promise26LinesAsTheyAre() {
        OpenLines x = alone(5);
        x.stick(5, 1);
        x.ask(0, 1);
        x.ticks(10);
        x.stick(5, 0);
        CHECK.told("whole again in time", x, x.ticks(1), 0);
        OpenLines y = alone(5);
        y.ask(0, 1);
        y.ticks(10);
        y.stick(5, 1);
        CHECK.told("STICKS in time", y, y.ticks(1), -2);
        now(y, 8, 1);
    }

    @Edge(promise = 26, says = "FAULTY is a PASS at whose WINDOW some BOARD (CONTENDER or not) takes an even number of LINES for 1.")
    static void promise26FaultyPasses() {
        for (int window : new int[] {8, 9}) {
            OpenLines x = Texts.made(Buses.text(1, 0, window, 0, 8, 0, 9, 16, 0));
            x.ask(0, 1);
            CHECK.told("a is MASTER", x, x.ticks(2 * window + 1), 0);
            now(x, 9, window == 8 ? 2 : 0);
            CHECK.told("log(0, 5)", x, x.log(0, 5), window == 8 ? 2 : 0);
        }
    }

    @Edge(promise = 26, says = "4 its CONTENDERS, as bits (0), 5 BOARDS that ASK, as bits")
    static void promise26AllSix() {
        OpenLines x = Texts.made(Buses.text(1, 0, 1, 0, 1, 0, 1, 2, 0, 2, 3, 0, 3, 4, 0, 4, 5, 0, 5, 6, 0));
        for (int b = 0; b < 6; b++) {
            x.ask(b, 1);
        }
        now(x, 4, 0);
        now(x, 5, 63);
        x.ticks(1);
        now(x, 4, 63);
    }

    // ---- promise 27

    @Edge(promise = 27, says = "0 how often it was MASTER, 1 TICKS as MASTER (at the end of each)")
    static void promise27AtTheEndOfEach() {
        OpenLines x = alone(1);
        x.ask(0, 2);
        x.ticks(2);
        ledger(x, 0, 0, 0);
        ledger(x, 0, 1, 0);
        int[] ticks = {1, 2, 2, 2};
        for (int want : ticks) {
            x.ticks(1);
            ledger(x, 0, 0, 1);
            ledger(x, 0, 1, want);
        }
        x.ask(0, 99);
        x.ticks(200);
        ledger(x, 0, 0, 2);
        ledger(x, 0, 1, 101);
    }

    @Edge(promise = 27, says = "one that ASKS already, or is MASTER, isn't heard (REFUSED)")
    static void promise27RefusedAsTold() {
        OpenLines x = Texts.made(Buses.text(1, 0, 1, 4, 8, 0) + ";ask 1 a 5;ask 1 a 6;ask 2 a 7;ask 3 a 8;ask 7 a 9;ask 9 a 3");
        x.ticks(1);
        ledger(x, 0, 2, 1);
        CHECK.told("the first one is heard", x, x.board(0, 5), 5);
        x.ticks(1);
        ledger(x, 0, 2, 2);
        CHECK.told("ASKS already, and is MASTER behind it", x, x.ticks(1), 0);
        ledger(x, 0, 2, 3);
        now(x, 1, 8);
        x.ticks(4);
        ledger(x, 0, 2, 4);
        x.ticks(2);
        ledger(x, 0, 2, 4);
        CHECK.told("heard again", x, x.board(0, 5), 3);
    }

    @Edge(promise = 27, says = "one that ASKS already, or is MASTER, isn't heard (REFUSED)")
    static void promise27RefusedAsItsTimeIsThrough() {
        OpenLines x = Texts.made(Buses.text(1, 0, 1, 4, 8, 0) + ";ask 1 a 5;ask 8 a 7");
        CHECK.told("the last TICK", x, x.ticks(7), 0);
        CHECK.told("MASTER till BOARDS have ASKED", x, x.ticks(1), -2);
        ledger(x, 0, 2, 1);
        now(x, 5, 0);
    }

    @Edge(promise = 27, says = "2 REFUSED, 3 how often it was PUT OFF")
    static void promise27RefusedAndPutOffOfEach() {
        OpenLines x = masterAndElect();
        x.ask(3, 5);
        for (int b = 0; b < 4; b++) {
            for (int i = 0; i < b; i++) {
                x.ask(b, 1);
            }
        }
        x.ticks(41);
        int[] refused = {0, 1, 1, 3};
        int[] putOff = {0, 1, 0, 0};
        for (int b = 0; b < 4; b++) {
            ledger(x, b, 2, refused[b]);
            ledger(x, b, 3, putOff[b]);
        }
    }

    @Edge(promise = 27, says = "4 the longest that it ASKED till it was MASTER (-2 it wasn't)")
    static void promise27Longest() {
        OpenLines x = Texts.made(Buses.text(1, 0, 5, 0, 1, 0, 1, 2, 0) + ";ask 60 a 3");
        ledger(x, 0, 4, -2);
        x.ask(0, 3);
        x.ask(1, 3);
        x.ticks(20);
        ledger(x, 0, 4, -2);
        x.ticks(1);
        ledger(x, 0, 4, 21);
        ledger(x, 1, 4, 11);
        x.ticks(79);
        ledger(x, 0, 0, 2);
        ledger(x, 0, 4, 21);
    }

    @Edge(promise = 27, says = "4 the longest that it ASKED till it was MASTER (-2 it wasn't)")
    static void promise27LeastAndGreater() {
        OpenLines x = Texts.made(Buses.text(1, 0, 1, 4, 8, 0) + ";ask 5 a 1");
        x.ticks(7);
        ledger(x, 0, 4, 2);
        x.ticks(1);
        x.ask(0, 1);
        x.ticks(3);
        ledger(x, 0, 4, 3);
    }

    @Edge(promise = 27, says = "5 how many ARBITRATIONS it won")
    static void promise27Won() {
        OpenLines x = masterAndElect();
        ledger(x, 0, 5, 1);
        ledger(x, 1, 5, 1);
        ledger(x, 1, 0, 0);
        ledger(x, 3, 5, 0);
        x.ask(3, 5);
        x.ticks(1);
        x.stick(1, 1);
        x.ticks(40);
        now(x, 8, 1);
        for (int b = 0; b < 4; b++) {
            ledger(x, b, 5, b < 2 ? 1 : 0);
        }
    }

    // ---- promise 28

    private static OpenLines logged(int count) {
        OpenLines x = alone(1);
        for (int i = 0; i < count; i++) {
            x.ask(0, 1);
            x.ticks(4);
        }
        now(x, 7, count);
        return x;
    }

    @Edge(promise = 28, says = "Of the i-th of THE LOG, the latest first")
    static void promise28Empty() {
        OpenLines x = alone(1);
        CHECK.refused("log(0, 0)", x, x.log(0, 0), 1);
        x.ask(0, 1);
        x.ticks(2);
        CHECK.refused("not through yet", x, x.log(0, 0), 1);
        x.ticks(1);
        log(x, 0, 3, 1, 1, 1, 0, 0);
        CHECK.refused("log(1, 0)", x, x.log(1, 0), 1);
    }

    @Edge(promise = 28, says = "THE LOG: the latest 16 ARBITRATIONS that were through")
    static void promise28Sixteen() {
        OpenLines x = logged(15);
        CHECK.told("the first of 15", x, x.log(14, 0), 3);
        CHECK.refused("log(15, 0) of 15", x, x.log(15, 0), 1);
        OpenLines y = logged(16);
        for (int i = 0; i < 16; i++) {
            CHECK.told("log(" + i + ", 0) of 16", y, y.log(i, 0), 63 - 4 * i);
        }
        CHECK.refused("log(16, 0) of 16", y, y.log(16, 0), 1);
    }

    @Edge(promise = 28, says = "THE LOG: the latest 16 ARBITRATIONS that were through")
    static void promise28OneMore() {
        OpenLines x = logged(17);
        for (int i = 0; i < 16; i++) {
            CHECK.told("log(" + i + ", 0) of 17", x, x.log(i, 0), 67 - 4 * i);
        }
        CHECK.refused("log(16, 0) of 17", x, x.log(16, 0), 1);
        OpenLines y = logged(40);
        CHECK.told("the latest of 40", y, y.log(0, 0), 159);
        CHECK.told("the last that is told", y, y.log(15, 0), 99);
        CHECK.refused("log(16, 0) of 40", y, y.log(16, 0), 1);
    }

    @Edge(promise = 28, says = "0 TIME, 1 CONTENDERS")
    static void promise28FirstAndAllContenders() {
        for (int set : new int[] {1, 32, 33, 63}) {
            OpenLines x = Texts.made(Buses.text(1, 0, 1, 0, 1, 0, 1, 2, 0, 2, 3, 0, 3, 4, 0, 4, 5, 0, 5, 6, 7));
            x.ticks(999);
            x.ticks(999);
            for (int b = 0; b < 6; b++) {
                if ((set >> b & 1) != 0) {
                    x.ask(b, 1);
                }
            }
            x.ticks(3);
            log(x, 0, 2001, set);
        }
    }

    @Edge(promise = 28, says = "(TIME, CONTENDERS, WINNERS of both PASSES, whom they ELECTED, how many PASSES were FAULTY)")
    static void promise28AllOfEach() {
        OpenLines x = Texts.made(FOUR);
        x.ask(0, 1);
        x.ask(1, 1);
        x.ask(2, 1);
        x.ticks(41);
        log(x, 0, 41, 7, 6, 4, 2, 0);
        x.ticks(40);
        log(x, 0, 81, 3, 2, 2, 1, 0);
        log(x, 1, 41, 7, 6, 4, 2, 0);
        x.stick(0, 1);
        x.ticks(40);
        log(x, 0, 121, 1, 1, 0, -2, 1);
        log(x, 2, 41, 7, 6, 4, 2, 0);
    }

    @Edge(promise = 28, says = "2, 3 WINNERS of PASS 1, 2 (bits; 0, where it wasn't made), 4 whom they ELECTED (-2), 5 FAULTY PASSES.")
    static void promise28OneThatFailed() {
        OpenLines x = Texts.made(FOUR);
        x.ask(1, 1);
        x.ask(2, 1);
        x.stick(5, 1);
        x.ticks(41);
        log(x, 0, 41, 6, 0, 0, -2);
        x.stick(5, 0);
        x.ticks(40);
        log(x, 0, 81, 6, 6, 4, 2, 0);
        log(x, 1, 41, 6, 0, 0, -2);
    }
}
