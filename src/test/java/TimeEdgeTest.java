/** Boundary cases of promises 29 to 34: what was, who waits, and what will be. */
public final class TimeEdgeTest {
    private static final Check CHECK = new Check("TimeEdgeTest");

    /** a, b, c at SLOTS 7, 2, 5; an ARBITRATION lasts 18 TICKS. */
    private static final String SLOTS = Buses.text(1, 0, 9, 7, 1, 0, 2, 2, 0, 5, 4, 0);

    private TimeEdgeTest() {
    }

    public static void main(String[] args) throws Exception {
        Edges.run(TimeEdgeTest.class, CHECK);
    }

    private static OpenLines alone(int window) {
        return Texts.made(Buses.text(1, 0, window, 4, 8, 0));
    }

    // ---- promises 29 and 30

    @Edge(promise = 29, says = "-2 none, or there was no such TICK.")
    static void promise29NoSuchTick() {
        OpenLines x = alone(1);
        CHECK.told("past(0) at 0", x, x.past(0), -2);
        CHECK.told("past(63) at 0", x, x.past(63), -2);
        x.ask(0, 2);
        x.ticks(3);
        CHECK.told("the latest", x, x.past(0), 0);
        CHECK.told("none was MASTER", x, x.past(1), -2);
        CHECK.told("the first TICK", x, x.past(2), -2);
        CHECK.told("no such TICK", x, x.past(3), -2);
        CHECK.told("no such TICK", x, x.past(63), -2);
    }

    @Edge(promise = 29, says = "Who was MASTER at the end of the TICK i TICKS ahead of the latest one (0 .. 63; 0: of the latest)")
    static void promise29From0To63() {
        OpenLines x = alone(1);
        x.ask(0, 1);
        x.ticks(3);
        for (int i = 0; i <= 63; i++) {
            CHECK.told("TICK 3 as past(" + i + ")", x, x.past(i), 0);
            if (i > 0) {
                CHECK.told("the TICK behind it", x, x.past(i - 1), -2);
            }
            x.ticks(1);
        }
        CHECK.refused("past(64)", x, x.past(64), 2);
        CHECK.told("past(63)", x, x.past(63), -2);
        CHECK.told("past(0)", x, x.past(0), -2);
    }

    @Edge(promise = 29, says = "Who was MASTER at the end of the TICK i TICKS ahead of the latest one (0 .. 63; 0: of the latest)")
    static void promise29AllOf64() {
        OpenLines x = alone(1);
        x.ask(0, 99);
        x.ticks(80);
        for (int i = 0; i <= 63; i++) {
            CHECK.told("past(" + i + ")", x, x.past(i), 0);
        }
        x.ticks(22);
        CHECK.told("its time is through", x, x.past(0), -2);
        CHECK.told("the TICK ahead", x, x.past(1), 0);
    }

    @Edge(promise = 30, says = "TICKS of those (the latest 64) in which there was no MASTER.")
    static void promise30NoneYet() {
        OpenLines x = alone(1);
        int[] ticks = {0, 1, 62, 1, 1, 1, 999};
        int[] want = {0, 1, 63, 64, 64, 64, 64};
        for (int i = 0; i < ticks.length; i++) {
            if (ticks[i] > 0) {
                x.ticks(ticks[i]);
            }
            CHECK.told("idle() at " + x.about(5), x, x.idle(), want[i]);
        }
    }

    @Edge(promise = 30, says = "TICKS of those (the latest 64) in which there was no MASTER.")
    static void promise30TheLatest64() {
        OpenLines x = alone(1);
        x.ask(0, 2);
        x.ticks(2);
        CHECK.told("at 2", x, x.idle(), 2);
        x.ticks(2);
        CHECK.told("at 4", x, x.idle(), 2);
        x.ticks(60);
        CHECK.told("at 64", x, x.idle(), 62);
        x.ticks(2);
        CHECK.told("TICKS 3 to 66", x, x.idle(), 62);
        x.ticks(1);
        CHECK.told("TICKS 4 to 67", x, x.idle(), 63);
        x.ticks(1);
        CHECK.told("TICKS 5 to 68", x, x.idle(), 64);
    }

    @Edge(promise = 30, says = "TICKS of those (the latest 64) in which there was no MASTER.")
    static void promise30NeverIdle() {
        OpenLines x = alone(1);
        x.ask(0, 99);
        x.ticks(66);
        CHECK.told("TICKS 3 to 66", x, x.idle(), 0);
        CHECK.told("past(63)", x, x.past(63), 0);
    }

    // ---- promise 31

    @Edge(promise = 31, says = "BOARDS that WAIT for one, by others, too, as bits.")
    static void promise31ByAllOthers() {
        OpenLines x = Texts.made(Buses.text(1, 0, 1, 0, 1, 7, 1, 2, 0, 2, 3, 0, 3, 4, 0, 4, 5, 0, 5, 6, 0));
        CHECK.told("none waits", x, x.waiting(5), 0);
        for (int b = 0; b < 5; b++) {
            x.waits(b, b + 1);
        }
        for (int b = 0; b < 6; b++) {
            CHECK.told("waiting(" + b + ")", x, x.waiting(b), (1 << b) - 1);
            CHECK.told("RANK OF THE DAY of " + b, x, x.board(b, 3), 7);
        }
        x.waits(2, -1);
        CHECK.told("the chain is parted", x, x.waiting(5), 24);
        CHECK.told("the other part", x, x.waiting(2), 3);
        CHECK.told("RANK OF THE DAY", x, x.board(5, 3), 0);
    }

    @Edge(promise = 31, says = "BOARDS that WAIT for one, by others, too, as bits.")
    static void promise31AgainstTheirNumbers() {
        OpenLines x = Texts.made(Buses.text(1, 0, 1, 0, 1, 0, 1, 2, 0, 2, 3, 0, 3, 4, 0, 4, 5, 0, 5, 6, 7));
        for (int b = 5; b > 0; b--) {
            x.waits(b, b - 1);
        }
        CHECK.told("all others", x, x.waiting(0), 62);
        CHECK.told("RANK OF THE DAY", x, x.board(0, 3), 7);
        for (int b = 1; b < 6; b++) {
            x.waits(b, 0);
        }
        CHECK.told("all at once", x, x.waiting(0), 62);
        CHECK.told("none", x, x.waiting(1), 0);
    }

    // ---- promise 32

    @Edge(promise = 32, says = "-2 none ASKS.")
    static void promise32None() {
        OpenLines x = Texts.made(SLOTS);
        CHECK.told("none", x, x.longest(), -2);
        x.ask(0, 5);
        CHECK.told("at once", x, x.longest(), 0);
        x.ticks(18);
        CHECK.told("till it is MASTER", x, x.longest(), 0);
        x.ticks(1);
        CHECK.told("MASTER", x, x.longest(), -2);
    }

    @Edge(promise = 32, says = "The BOARD that has ASKED longest (of several the first by SLOTS)")
    static void promise32FirstBySlots() {
        OpenLines x = Texts.made(SLOTS + ";ask 3 a 1;ask 3 c 1;ask 3 b 1");
        x.ticks(3);
        CHECK.told("of all at SLOTS 7, 2, 5", x, x.longest(), 1);
        OpenLines y = Texts.made(SLOTS + ";ask 3 a 1;ask 3 c 1;ask 4 b 1");
        y.ticks(4);
        CHECK.told("of two at 7, 5", y, y.longest(), 2);
        OpenLines z = Texts.made(SLOTS + ";ask 3 a 1;ask 4 c 1;ask 4 b 1");
        z.ticks(4);
        CHECK.told("the longest, though it is the last by SLOTS", z, z.longest(), 0);
    }

    @Edge(promise = 32, says = "The BOARD that has ASKED longest (of several the first by SLOTS)")
    static void promise32FirstAndLastSlot() {
        String[] asks = {";ask 3 a 1", ";ask 3 b 1", ";ask 3 a 1;ask 3 b 1", ";ask 3 a 1;ask 4 b 1", ";ask 3 b 1;ask 4 a 1"};
        int[][] want = {{0, 1, 0, 0, 1}, {0, 1, 1, 0, 1}};
        for (int i = 0; i < asks.length; i++) {
            for (int slot = 0; slot <= 9; slot += 9) {
                OpenLines x = Texts.made(Buses.text(1, 0, 9, slot, 1, 0, 9 - slot, 2, 0) + asks[i]);
                x.ticks(4);
                CHECK.told("a at SLOT " + slot + asks[i], x, x.longest(), want[slot / 9][i]);
            }
        }
    }

    @Edge(promise = 32, says = "The BOARD that has ASKED longest (of several the first by SLOTS)")
    static void promise32RefusedAsksDoNotCount() {
        OpenLines x = Texts.made(SLOTS);
        x.ask(0, 5);
        x.ticks(1);
        x.ask(1, 5);
        x.ask(0, 5);
        CHECK.told("since the first ask", x, x.longest(), 0);
    }

    // ---- promise 33

    @Edge(promise = 33, says = "What will be, nothing else being done: now() of what behind n TICKS (1 .. 999).")
    static void promise33From1To999() {
        String text = SLOTS + ";ask 1 a 40;ask 20 b 9;ask 500 c 99;ask 600 a 60;ask 999 b 1";
        for (int n : new int[] {1, 2, 18, 19, 500, 998, 999}) {
            OpenLines x = Texts.made(text);
            OpenLines y = Texts.made(text);
            x.ask(2, 3);
            y.ask(2, 3);
            y.ticks(n);
            for (int what = 0; what <= 10; what++) {
                CHECK.told("will(" + n + ", " + what + ")", x, x.will(n, what), y.now(what));
            }
        }
    }

    @Edge(promise = 33, says = "What will be, nothing else being done: now() of what behind n TICKS (1 .. 999).")
    static void promise33NothingIsDone() {
        OpenLines x = Buses.rich();
        x.will(1, 0);
        x.will(999, 10);
        CHECK.due("all is as it was", Buses.print(x).equals(Buses.print(Buses.rich())), true);
    }

    // ---- promise 34

    @Edge(promise = 34, says = "In how many TICKS (1 .. 2,000) a BOARD is MASTER next")
    static void promise34InOneTick() {
        OpenLines x = alone(1);
        x.ask(0, 9);
        CHECK.told("in 3", x, x.till(0), 3);
        x.ticks(2);
        CHECK.told("in 1", x, x.till(0), 1);
    }

    @Edge(promise = 34, says = "In how many TICKS (1 .. 2,000) a BOARD is MASTER next")
    static void promise34In2000Ticks() {
        String text = Buses.text(1, 0, 200, 0, 1, 0, 1, 2, 1, 2, 4, 2) + ";ask TT a 1;ask TT b 1;ask TT c 1";
        OpenLines x = Texts.made(text.replace("TT", "799"));
        CHECK.told("in 1999", x, x.till(0), 1999);
        OpenLines y = Texts.made(text.replace("TT", "800"));
        CHECK.told("in 2000", y, y.till(0), 2000);
    }

    @Edge(promise = 34, says = "-2 not so soon.")
    static void promise34NotSoSoon() {
        OpenLines x = Texts.made(Buses.text(1, 0, 200, 0, 1, 0, 1, 2, 1, 2, 4, 2) + ";ask 801 a 1;ask 801 b 1;ask 801 c 1");
        CHECK.told("in 2001", x, x.till(0), -2);
        x.ticks(1);
        CHECK.told("in 2000", x, x.till(0), 2000);
        OpenLines y = alone(1);
        CHECK.told("never", y, y.till(0), -2);
    }

    @Edge(promise = 34, says = "a BOARD is MASTER next (not now)")
    static void promise34NotNow() {
        OpenLines x = Texts.made(Buses.text(1, 0, 1, 4, 8, 0) + ";ask 1 a 5;ask 20 a 5");
        x.ticks(7);
        CHECK.told("its last TICK", x, x.now(1), 8);
        CHECK.told("next", x, x.till(0), 15);
        x.ticks(1);
        CHECK.told("next", x, x.till(0), 14);
        x.ticks(14);
        CHECK.told("its last time", x, x.now(0), 0);
        x.ticks(4);
        CHECK.told("its last TICK", x, x.now(1), 27);
        CHECK.told("never again", x, x.till(0), -2);
    }

    @Edge(promise = 34, says = "In how many TICKS (1 .. 2,000) a BOARD is MASTER next")
    static void promise34NothingIsDone() {
        OpenLines x = Buses.rich();
        for (int b = 0; b < 3; b++) {
            x.till(b);
        }
        CHECK.due("all is as it was", Buses.print(x).equals(Buses.print(Buses.rich())), true);
    }
}
