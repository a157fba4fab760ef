/** Boundary cases of promises 14 to 25 (Terms, II): winners, and when they are settled, sure and right. */
public final class PassEdgeTest {
    private static final Check CHECK = new Check("PassEdgeTest");

    /** Six boards of all sorts, 63 sets of CONTENDERS. */
    private static final String SIX = Buses.text(1, 0, 20, 9, 31, 7, 0, 1, 0, 8, 2, 1, 7, 3, 2, 6, 4, 3, 5, 6, 4);

    private PassEdgeTest() {
    }

    public static void main(String[] args) throws Exception {
        Edges.run(PassEdgeTest.class, CHECK);
    }

    /** a drives LINE 4 alone and b, 9 SLOTS away, LINE 5 alone: b is sure of itself at 18, GATE and FILTER. */
    private static OpenLines far(int gate, int filter, int window) {
        return Texts.made(Buses.text(gate, filter, window, 0, 8, 0, 9, 16, 0));
    }

    /** b is greatest, and wins at 2, 3, 9, and from 14 on; at 10 to 13 none does. */
    private static OpenLines wavering(int filter, int window) {
        return Texts.made(Buses.text(1, filter, window, 2, 10, 0, 4, 30, 0, 0, 21, 0));
    }

    // ---- promise 14

    @Edge(promise = 14, says = "WINNERS at t: CONTENDERS that aren't WITHDRAWN at t.")
    static void promise14FirstAndLastTick() {
        OpenLines x = far(1, 0, 20);
        CHECK.told("all at 0", x, x.winners(2, 3, 0), 3);
        CHECK.told("all at 8", x, x.winners(2, 3, 8), 3);
        CHECK.told("none at 9", x, x.winners(2, 3, 9), 0);
        CHECK.told("none at 18", x, x.winners(2, 3, 18), 0);
        CHECK.told("b at 19", x, x.winners(2, 3, 19), 2);
        CHECK.told("b at 400", x, x.winners(2, 3, 400), 2);
    }

    @Edge(promise = 14, says = "WINNERS at t: CONTENDERS that aren't WITHDRAWN at t.")
    static void promise14WhoDoesNotContendDoesNotWin() {
        OpenLines x = far(1, 0, 20);
        for (int t : new int[] {0, 9, 400}) {
            CHECK.told("a alone at " + t, x, x.winners(2, 1, t), 1);
            CHECK.told("b alone at " + t, x, x.winners(2, 2, t), 2);
        }
        x.stick(0, 1);
        CHECK.told("none", x, x.winners(2, 3, 0), 0);
        CHECK.told("none at 400", x, x.winners(2, 1, 400), 0);
    }

    @Edge(promise = 14, says = "WINNERS at t: CONTENDERS that aren't WITHDRAWN at t.")
    static void promise14AllOfSixByLikeWords() {
        OpenLines x = Texts.made(Buses.text(1, 0, 20, 9, 31, 7, 0, 1, 7, 8, 2, 7, 7, 3, 7, 6, 4, 7, 5, 6, 7));
        CHECK.told("all", x, x.winners(1, 63, 400), 63);
        CHECK.told("the first of the greatest", x, x.winners(2, 63, 400), 1);
        CHECK.told("the last alone", x, x.winners(2, 32, 400), 32);
    }

    // ---- promise 15

    @Edge(promise = 15, says = "SETTLED are CONTENDERS at the least TICK from which to TICK 400 each drives what it drove then.")
    static void promise15SettledAtOnce() {
        OpenLines x = Texts.made(SIX);
        for (int set = 1; set < 64; set *= 2) {
            CHECK.told("one alone", x, x.settles(2, set), 0);
        }
        OpenLines y = Texts.made(Buses.TWO);
        CHECK.told("like WORDS", y, y.settles(1, 3), 0);
    }

    @Edge(promise = 15, says = "SETTLED are CONTENDERS at the least TICK from which to TICK 400 each drives what it drove then.")
    static void promise15LeastTick() {
        for (int gate = 1; gate <= 3; gate++) {
            OpenLines x = far(gate, 20, 20);
            CHECK.told("as a lets go", x, x.settles(2, 3), 9 + gate);
            x.stick(3, 1);
            CHECK.told("withdrawn at 0", x, x.settles(2, 3), 9 + gate);
            x.stick(5, 1);
            CHECK.told("withdrawn at 0 to LINE 5", x, x.settles(2, 1), gate);
        }
    }

    @Edge(promise = 15, says = "SETTLED are CONTENDERS at the least TICK from which to TICK 400 each drives what it drove then.")
    static void promise15LastOfAll() {
        OpenLines x = Texts.made(Buses.text(3, 20, 20, 0, 8, 0, 9, 17, 0));
        CHECK.told("as b drives all of it again", x, x.settles(2, 3), 44);
        CHECK.told("drives at 43", x, x.drives(2, 3, 1, 43), 0b100000);
        CHECK.told("drives at 44", x, x.drives(2, 3, 1, 44), 0b100011);
    }

    // ---- promise 16

    @Edge(promise = 16, says = "SURE is the least TICK from which to TICK 400 WINNERS are RIGHT")
    static void promise16LeastTick() {
        for (int gate = 1; gate <= 3; gate++) {
            for (int filter : new int[] {0, 1, 20}) {
                OpenLines x = far(gate, filter, 20);
                CHECK.told("sure", x, x.sure(2, 3), 18 + gate + filter);
            }
        }
        OpenLines x = far(1, 0, 20);
        CHECK.told("alone: at 0", x, x.sure(2, 1), 0);
        CHECK.told("like WORDS: at 0", x, x.sure(1, 3), 0);
    }

    @Edge(promise = 16, says = "SURE is the least TICK from which to TICK 400 WINNERS are RIGHT")
    static void promise16RightFirstAndWrongLater() {
        OpenLines x = wavering(0, 20);
        int[] right = {0, 0, 1, 1, 0, 0, 0, 0, 0, 1, 0, 0, 0, 0, 1, 1};
        for (int t = 0; t < right.length; t++) {
            CHECK.told("WINNERS are RIGHT at " + t, x, x.winners(2, 7, t) == 2 ? 1 : 0, right[t]);
        }
        CHECK.told("sure", x, x.sure(2, 7), 14);
    }

    @Edge(promise = 16, says = "-2 if they aren't at 400.")
    static void promise16NotAt400() {
        OpenLines x = far(1, 0, 20);
        x.stick(0, 1);
        CHECK.told("none wins", x, x.sure(2, 3), -2);
        CHECK.told("nor alone", x, x.sure(2, 2), -2);
        x.stick(0, 0);
        x.stick(5, 2);
        CHECK.told("both win, one is RIGHT", x, x.winners(2, 3, 400), 1);
        CHECK.told("the wrong one wins", x, x.sure(2, 3), -2);
        CHECK.told("alone it is sure", x, x.sure(2, 2), 0);
    }

    // ---- promise 17

    @Edge(promise = 17, says = "RIGHT: those with the greatest WORD.")
    static void promise17OneOrSeveral() {
        OpenLines x = Texts.made(Buses.text(1, 0, 20, 0, 1, 7, 1, 31, 7, 2, 30, 0));
        CHECK.told("of PASS 1: like RANKS", x, x.right(1, 7), 3);
        CHECK.told("of PASS 2: the greatest CODE", x, x.right(2, 7), 2);
        CHECK.told("of others", x, x.right(2, 5), 4);
        CHECK.told("of PASS 1: others", x, x.right(1, 5), 1);
        for (int b = 0; b < 3; b++) {
            CHECK.told("alone", x, x.right(1, 1 << b), 1 << b);
        }
        OpenLines six = Texts.made(Buses.text(1, 0, 20, 9, 31, 0, 0, 1, 0, 8, 2, 0, 7, 3, 0, 6, 4, 0, 5, 6, 0));
        CHECK.told("all of six", six, six.right(1, 63), 63);
    }

    @Edge(promise = 17, says = "RIGHT: those with the greatest WORD.")
    static void promise17ByWordsAndNotByLines() {
        OpenLines x = Texts.made(Buses.text(1, 0, 1, 0, 1, 3, 1, 2, 3));
        x.ask(1, 1);
        x.ticks(3);
        CHECK.told("who is FRESH has a greater WORD", x, x.right(1, 3), 1);
        x.stick(5, 1);
        x.stick(2, 2);
        CHECK.told("LINES do nothing to it", x, x.right(1, 3), 1);
        x.waits(0, 1);
        CHECK.told("a like RANK handed on neither", x, x.right(1, 3), 1);
    }

    // ---- promise 18

    @Edge(promise = 18, says = "How many DIPS there are till TICK 400.")
    static void promise18NoneOrMany() {
        OpenLines x = far(1, 0, 20);
        CHECK.told("none drives what is let go of", x, x.dips(2, 3), 0);
        CHECK.told("nothing is let go of", x, x.dips(2, 1), 0);
        OpenLines y = Texts.made(Buses.TWO);
        CHECK.told("one", y, y.dips(2, 3), 1);
        OpenLines z = Texts.made(Buses.text(1, 0, 20, 4, 9, 0, 9, 29, 0, 2, 13, 0));
        CHECK.told("of LINES 1, 0 and 4 by a, and 4, 3, 1 by c", z, z.dips(2, 7), 6);
    }

    @Edge(promise = 18, says = "if others drive it at that TICK, there is a DIP")
    static void promise18AllLetGoAtOnce() {
        OpenLines x = Texts.made(Buses.text(1, 0, 20, 0, 9, 0, 3, 17, 0));
        CHECK.told("a and b let go at the same TICK", x, x.dips(2, 3), 0);
        OpenLines y = Texts.made(Buses.text(1, 0, 20, 0, 9, 0, 3, 25, 0));
        CHECK.told("b drives LINES 4 and 1 all the time", y, y.dips(2, 3), 2);
        y.stick(4, 2);
        y.stick(1, 1);
        CHECK.told("though they are BROKEN or STICK", y, y.dips(2, 3), 2);
    }

    /** b drives LINE 3 all the time; c lets go of it at 2 and, as it drives it again at 4, at 10. */
    @Edge(promise = 18, says = "A CONTENDER that drove a LINE at the TICK ahead and doesn't any more LETS GO of it")
    static void promise18LetsGoTwice() {
        OpenLines x = Texts.made(Buses.text(1, 0, 20, 6, 14, 0, 3, 28, 0, 5, 20, 0));
        int[] line3 = {1, 1, 0, 0, 1, 1, 1, 1, 1, 1, 0, 0, 0};
        for (int t = 0; t < line3.length; t++) {
            CHECK.told("c drives LINE 3 at " + t, x, x.drives(2, 7, 2, t) >> 3 & 1, line3[t]);
            CHECK.told("b at " + t, x, x.drives(2, 7, 1, t), 0b111000);
        }
        CHECK.told("a lets go of 4, 3, 2 at 2", x, x.drives(2, 7, 0, 1) - x.drives(2, 7, 0, 2), 0b011100);
        CHECK.told("of LINES 4 and 3 by a, twice of LINE 3 by c", x, x.dips(2, 7), 4);
    }

    // ---- promise 19

    @Edge(promise = 19, says = "some BOARD (CONTENDER or not) takes an even number of LINES for 1")
    static void promise19NoLineIsEven() {
        OpenLines x = far(1, 0, 20);
        CHECK.told("b looks on and sees nothing", x, x.faulty(2, 1, 0), 1);
        CHECK.told("still", x, x.faulty(2, 1, 8), 1);
        CHECK.told("b sees one LINE", x, x.faulty(2, 1, 9), 0);
        CHECK.told("at 400", x, x.faulty(2, 1, 400), 0);
    }

    @Edge(promise = 19, says = "some BOARD (CONTENDER or not) takes an even number of LINES for 1")
    static void promise19EvenForOneOfThem() {
        OpenLines x = far(1, 0, 20);
        int[] ticks = {0, 8, 9, 18, 19, 400};
        int[] want = {0, 0, 1, 1, 0, 0};
        for (int i = 0; i < ticks.length; i++) {
            CHECK.told("at " + ticks[i], x, x.faulty(2, 3, ticks[i]), want[i]);
        }
        OpenLines y = far(1, 20, 20);
        CHECK.told("taken, not seen", y, y.faulty(2, 3, 38), 1);
        CHECK.told("taken no more", y, y.faulty(2, 3, 39), 0);
    }

    @Edge(promise = 19, says = "1 if a PASS is FAULTY at a TICK (in place of WINDOW), 0.")
    static void promise19OfOneBoard() {
        OpenLines x = Texts.made(Buses.text(1, 0, 1, 4, 8, 0));
        CHECK.told("its WORD is odd", x, x.faulty(2, 1, 0), 0);
        x.stick(5, 1);
        CHECK.told("a LINE more at 0", x, x.faulty(2, 1, 0), 1);
        CHECK.told("its own no more at 1", x, x.faulty(2, 1, 1), 0);
        x.stick(0, 1);
        CHECK.told("two LINES more at 0", x, x.faulty(2, 1, 0), 0);
        CHECK.told("two LINES at 1", x, x.faulty(2, 1, 1), 1);
    }

    // ---- promise 20

    @Edge(promise = 20, says = "How often a LINE as SEEN by a BOARD changes from one TICK to the next one, till TICK 400.")
    static void promise20FromTick0On() {
        OpenLines x = far(1, 20, 20);
        CHECK.told("seen from 0 on, never else", x, x.edges(2, 3, 1, 5), 0);
        CHECK.told("never seen", x, x.edges(2, 3, 1, 0), 0);
        CHECK.told("seen from 9 on", x, x.edges(2, 3, 0, 5), 1);
        CHECK.told("seen till 9", x, x.edges(2, 3, 0, 4), 1);
        CHECK.told("seen from 9 to 18", x, x.edges(2, 3, 1, 4), 2);
        CHECK.told("by one that looks on", x, x.edges(2, 1, 1, 4), 1);
        x.stick(4, 1);
        CHECK.told("a LINE that STICKS", x, x.edges(2, 3, 1, 4), 0);
        x.stick(4, 2);
        CHECK.told("a LINE that is BROKEN", x, x.edges(2, 3, 1, 4), 0);
        CHECK.told("but by who drives it", x, x.edges(2, 3, 0, 4), 1);
    }

    @Edge(promise = 20, says = "How often a LINE as SEEN by a BOARD changes from one TICK to the next one, till TICK 400.")
    static void promise20FromTick0ToTick1() {
        OpenLines x = Texts.made(Buses.text(1, 0, 20, 0, 8, 0, 1, 16, 0));
        CHECK.told("seen from 1 on by one that looks on", x, x.edges(2, 1, 1, 4), 1);
        CHECK.told("seen from 1 on", x, x.edges(2, 3, 0, 5), 1);
        CHECK.told("seen till 1", x, x.edges(2, 3, 0, 4), 1);
        CHECK.told("seen from 1 to 2", x, x.edges(2, 3, 1, 4), 2);
    }

    @Edge(promise = 20, says = "How often a LINE as SEEN by a BOARD changes from one TICK to the next one, till TICK 400.")
    static void promise20ByDips() {
        OpenLines x = Texts.made(Buses.text(1, 0, 20, 0, 9, 0, 3, 25, 0, 5, 1, 0));
        int[] want = {2, 3, 0, 0, 3, 1};
        for (int line = 0; line <= 5; line++) {
            CHECK.told("LINE " + line, x, x.edges(2, 3, 2, line), want[line]);
        }
    }

    // ---- promise 21

    @Edge(promise = 21, says = "The least FILTER (0 .. 20) by which WINNERS from WINDOW to TICK 400 are RIGHT")
    static void promise21FromWindowOn() {
        OpenLines x = far(1, 0, 19);
        CHECK.told("sure at WINDOW", x, x.filters(2, 3), 0);
        OpenLines y = far(1, 0, 18);
        CHECK.told("one TICK behind it", y, y.filters(2, 3), -2);
        OpenLines z = far(1, 0, 200);
        CHECK.told("the greatest WINDOW", z, z.filters(2, 3), 0);
        OpenLines one = far(1, 20, 1);
        CHECK.told("the least WINDOW, alone", one, one.filters(2, 1), 0);
    }

    @Edge(promise = 21, says = "The least FILTER (0 .. 20) by which WINNERS from WINDOW to TICK 400 are RIGHT")
    static void promise21LeastOfSeveral() {
        int[] window = {2, 3, 9, 10, 11, 13, 14, 15};
        int[] want = {-2, -2, -2, -2, 4, 4, 0, 0};
        for (int i = 0; i < window.length; i++) {
            for (int filter : new int[] {0, 4, 20}) {
                OpenLines x = wavering(filter, window[i]);
                CHECK.told("by WINDOW " + window[i] + ", whatever FILTER the BUS has", x, x.filters(2, 7), want[i]);
            }
        }
    }

    @Edge(promise = 21, says = "The least FILTER (0 .. 20) by which WINNERS from WINDOW to TICK 400 are RIGHT")
    static void promise21TheGreatestFilter() {
        int[] window = {23, 24, 33, 34};
        int[] want = {-2, 20, 20, 0};
        for (int i = 0; i < window.length; i++) {
            OpenLines x = Texts.made(Buses.text(2, 0, window[i], 9, 3, 0, 0, 15, 0, 7, 27, 0, 3, 10, 0, 8, 21, 0));
            CHECK.told("by WINDOW " + window[i], x, x.filters(2, 31), want[i]);
        }
    }

    @Edge(promise = 21, says = "-2 none is.")
    static void promise21None() {
        OpenLines x = far(1, 0, 200);
        x.stick(5, 2);
        CHECK.told("the wrong one wins", x, x.filters(2, 3), -2);
        x.stick(5, 0);
        x.stick(0, 1);
        CHECK.told("none wins", x, x.filters(2, 2), -2);
    }

    // ---- promises 22 to 24

    @Edge(promise = 22, says = "The CONTENDERS (all sets of BOARDS, none aside) that settle last, as bits, the least such.")
    static void promise22LeastOfSeveral() {
        OpenLines one = Texts.made(Buses.text(1, 0, 1, 0, 1, 0));
        CHECK.told("one BOARD", one, one.slowest(2), 1);
        OpenLines x = Texts.made(Buses.text(1, 0, 20, 9, 31, 7, 0, 1, 7, 8, 2, 7));
        CHECK.told("all settle at 0", x, x.slowest(1), 1);
        OpenLines y = Texts.made(Buses.text(1, 0, 20, 0, 8, 0, 4, 16, 7, 8, 4, 0));
        int[] settles = {0, 0, 5, 0, 0, 5, 5};
        for (int set = 1; set <= 7; set++) {
            CHECK.told("settles(1, " + set + ")", y, y.settles(1, set), settles[set - 1]);
        }
        CHECK.told("the least of those that settle at 5", y, y.slowest(1), 3);
        CHECK.told("of PASS 2: c sees late what a drives", y, y.slowest(2), 5);
    }

    @Edge(promise = 22, says = "The CONTENDERS (all sets of BOARDS, none aside) that settle last, as bits, the least such.")
    static void promise22AllSetsOfSix() {
        OpenLines x = Texts.made(SIX);
        for (int pass = 1; pass <= 2; pass++) {
            int slowest = 1;
            for (int set = 2; set < 64; set++) {
                slowest = x.settles(pass, set) > x.settles(pass, slowest) ? set : slowest;
            }
            CHECK.told("slowest(" + pass + ")", x, x.slowest(pass), slowest);
        }
        OpenLines last = Texts.made(Buses.text(1, 0, 20, 0, 1, 0, 1, 2, 0, 2, 3, 0, 3, 4, 0, 4, 5, 0, 9, 6, 7));
        CHECK.told("the first and the last", last, last.slowest(1), 33);
        CHECK.told("settles", last, last.settles(1, 33), 10);
    }

    @Edge(promise = 23, says = "How many sets of CONTENDERS (none aside) are SETTLED at a TICK.")
    static void promise23FirstAndLastTick() {
        OpenLines x = far(1, 0, 20);
        int[] ticks = {0, 9, 10, 11, 400};
        int[] want = {2, 2, 3, 3, 3};
        for (int i = 0; i < ticks.length; i++) {
            CHECK.told("at " + ticks[i], x, x.settled(2, ticks[i]), want[i]);
        }
        CHECK.told("like WORDS", x, x.settled(1, 0), 3);
        x.stick(5, 1);
        CHECK.told("b alone at 0", x, x.settled(2, 0), 1);
        CHECK.told("all at GATE", x, x.settled(2, 1), 3);
    }

    @Edge(promise = 23, says = "How many sets of CONTENDERS (none aside) are SETTLED at a TICK.")
    static void promise23NoneAndAllOfSix() {
        OpenLines x = Texts.made(SIX);
        CHECK.told("all at 400", x, x.settled(2, 400), 63);
        CHECK.told("all at 400", x, x.settled(1, 400), 63);
        OpenLines y = Texts.made(Buses.text(3, 0, 20, 0, 1, 0, 1, 2, 0));
        y.stick(5, 1);
        for (int t = 0; t <= 3; t++) {
            CHECK.told("none ahead of GATE, at " + t, y, y.settled(2, t), t < 3 ? 0 : 3);
        }
    }

    @Edge(promise = 24, says = "The least WINDOW (0 .. 400) by which WINNERS of each set of CONTENDERS are RIGHT, in it and all greater ones")
    static void promise24LeastWindow() {
        OpenLines one = Texts.made(Buses.text(3, 20, 1, 0, 1, 0));
        CHECK.told("one BOARD: 0", one, one.enough(2), 0);
        OpenLines x = far(1, 0, 1);
        CHECK.told("like WORDS: 0", x, x.enough(1), 0);
        CHECK.told("whatever WINDOW the BUS has", x, x.enough(2), 19);
        OpenLines y = far(3, 20, 200);
        CHECK.told("the slowest GATE and FILTER", y, y.enough(2), 41);
        OpenLines z = wavering(0, 20);
        CHECK.told("in all greater ones", z, z.enough(2) >= 14 ? 1 : 0, 1);
        int greatest = 0;
        for (int set = 1; set < 8; set++) {
            greatest = Math.max(greatest, z.sure(2, set));
        }
        CHECK.told("of each set", z, z.enough(2), greatest);
    }

    @Edge(promise = 24, says = "-2: some aren't at 400.")
    static void promise24NeverEnough() {
        OpenLines x = far(1, 0, 20);
        x.stick(5, 1);
        CHECK.told("b alone is RIGHT, a never", x, x.sure(2, 2), 0);
        CHECK.told("never enough", x, x.enough(2), -2);
        x.stick(5, 2);
        CHECK.told("each alone is RIGHT", x, x.sure(2, 1) + x.sure(2, 2), 0);
        CHECK.told("but not both", x, x.enough(2), -2);
        x.stick(5, 0);
        CHECK.told("enough again", x, x.enough(2), 19);
    }

    // ---- promise 25

    @Edge(promise = 25, says = "Whom an ARBITRATION of CONTENDERS now would ELECT; -2 it would fail.")
    static void promise25ByWindow() {
        int[] window = {1, 8, 9, 18, 19, 200};
        int[] want = {-2, -2, -2, -2, 1, 1};
        for (int i = 0; i < window.length; i++) {
            OpenLines x = far(1, 0, window[i]);
            CHECK.told("several, none or one, by WINDOW " + window[i], x, x.would(3), want[i]);
            CHECK.told("a alone", x, x.would(1), 0);
            CHECK.told("b alone", x, x.would(2), 1);
        }
    }

    @Edge(promise = 25, says = "WINNERS at WINDOW of PASS 1 of its CONTENDERS, as its WORDS were when it began, contend in PASS 2")
    static void promise25ByBothPasses() {
        OpenLines x = Texts.made(Buses.text(1, 0, 30, 0, 31, 0, 5, 1, 7, 9, 2, 7));
        CHECK.told("the greater CODE of those of the greatest RANK", x, x.would(7), 2);
        CHECK.told("the greater RANK", x, x.would(3), 1);
        x.waits(1, 0);
        CHECK.told("a RANK handed on", x, x.would(7), 0);
        x.stick(2, 2);
        CHECK.told("by LINES as they are: b doesn't see that c is greater", x, x.would(6), 1);
        CHECK.told("nothing is counted", x, x.now(7), 0);
        CHECK.told("nobody's turn is spent", x, x.board(2, 4), 1);
    }

    @Edge(promise = 25, says = "it isn't made without any")
    static void promise25NoneWinsPass1() {
        OpenLines x = Texts.made(Buses.text(1, 0, 20, 0, 31, 0));
        x.stick(5, 1);
        CHECK.told("it would win PASS 2", x, x.winners(2, 1, 20), 1);
        CHECK.told("but not PASS 1", x, x.winners(1, 1, 20), 0);
        CHECK.told("would(1)", x, x.would(1), -2);
    }
}
