/** Promises 10 to 25: what contenders drive, see and take, and what comes of it. */
public final class PassTest {
    private static final Check CHECK = new Check("PassTest");

    private PassTest() {
    }

    public static void main(String[] args) {
        promises10To13Late();
        promises10To13Dip();
        hurtLines();
        promise14Winners();
        promises15To18();
        promise19Faulty();
        promise20Edges();
        promise21Filters();
        promises22To24AllSets();
        promise25Would();
        refusals();
        CHECK.end();
    }

    private static void promises10To13Late() {
        OpenLines x = Texts.made(Buses.LATE);
        int[] drivesA = {7, 7, 7, 7, 0, 0, 0, 0, 0};
        int[] seenA = {7, 7, 15, 15, 8, 8, 8, 8, 8};
        int[] takenA = {7, 7, 15, 15, 15, 8, 8, 8, 8};
        int[] lostA = {-2, -2, 3, 3, 3, 3, 3, 3, 3};
        int[] seenB = {8, 8, 15, 15, 15, 15, 8, 8, 8};
        int[] takenB = {8, 8, 15, 15, 15, 15, 15, 8, 8};
        int[] lostB = {-2, -2, 2, 2, 2, 2, 2, -2, -2};
        for (int t = 0; t < 9; t++) {
            CHECK.told("drives a " + t, x, x.drives(2, 3, 0, t), drivesA[t]);
            CHECK.told("drives b " + t, x, x.drives(2, 3, 1, t), 8);
            CHECK.told("seen a " + t, x, x.seen(2, 3, 0, t), seenA[t]);
            CHECK.told("seen b " + t, x, x.seen(2, 3, 1, t), seenB[t]);
            CHECK.told("taken a " + t, x, x.taken(2, 3, 0, t), takenA[t]);
            CHECK.told("taken b " + t, x, x.taken(2, 3, 1, t), takenB[t]);
            CHECK.told("withdrawn a " + t, x, x.withdrawn(2, 3, 0, t), lostA[t]);
            CHECK.told("withdrawn b " + t, x, x.withdrawn(2, 3, 1, t), lostB[t]);
        }
        CHECK.told("drives at 400", x, x.drives(2, 3, 0, 400), 0);
        CHECK.told("seen at 400", x, x.seen(2, 3, 0, 400), 8);
        CHECK.told("taken at 400", x, x.taken(2, 3, 1, 400), 8);
        CHECK.told("withdrawn at 400", x, x.withdrawn(2, 3, 0, 400), 3);
        CHECK.told("one that doesn't contend drives nothing", x, x.drives(2, 2, 0, 3), 0);
        CHECK.told("it sees late", x, x.seen(2, 2, 0, 1), 0);
        CHECK.told("it sees", x, x.seen(2, 2, 0, 2), 8);
        CHECK.told("it takes", x, x.taken(2, 2, 0, 2), 8);
        CHECK.told("it isn't withdrawn", x, x.withdrawn(2, 2, 0, 5), -2);
    }

    private static void promises10To13Dip() {
        OpenLines x = Texts.made(Buses.TWO);
        int[] drivesA = {11, 11, 8, 8, 8};
        int[] seenA = {11, 15, 12, 12, 14};
        int[] seenB = {14, 15, 15, 14, 14};
        int[] lostB = {-2, 0, 0, -2, -2};
        for (int t = 0; t < 5; t++) {
            CHECK.told("drives a " + t, x, x.drives(2, 3, 0, t), drivesA[t]);
            CHECK.told("drives b " + t, x, x.drives(2, 3, 1, t), 14);
            CHECK.told("seen a " + t, x, x.seen(2, 3, 0, t), seenA[t]);
            CHECK.told("seen b " + t, x, x.seen(2, 3, 1, t), seenB[t]);
            CHECK.told("taken a " + t, x, x.taken(2, 3, 0, t), seenA[t]);
            CHECK.told("withdrawn b " + t, x, x.withdrawn(2, 3, 1, t), lostB[t]);
        }
    }

    private static void hurtLines() {
        OpenLines x = Texts.made(Buses.TWO);
        x.stick(5, 1);
        CHECK.told("a line that sticks is seen", x, x.seen(2, 3, 0, 0), 32 + 11);
        CHECK.told("all withdraw", x, x.winners(2, 3, 0), 0);
        CHECK.told("drives all ahead of GATE", x, x.drives(2, 3, 0, 0), 11);
        CHECK.told("drives nothing then", x, x.drives(2, 3, 0, 1), 0);
        CHECK.told("settles", x, x.settles(2, 3), 1);
        CHECK.told("sure", x, x.sure(2, 3), -2);
        CHECK.told("enough", x, x.enough(2), -2);
        CHECK.told("filters", x, x.filters(2, 3), -2);
        x.stick(5, 0);
        x.stick(2, 2);
        CHECK.told("broken: not seen by another one", x, x.seen(2, 3, 0, 1), 11);
        CHECK.told("broken: seen by who drives it", x, x.seen(2, 3, 1, 1), 15);
        CHECK.told("the wrong one wins", x, x.winners(2, 3, 400), 1);
        CHECK.told("right all the same", x, x.right(2, 3), 2);
        CHECK.told("sure, not at 400", x, x.sure(2, 3), -2);
    }

    private static void promise14Winners() {
        OpenLines x = Texts.made(Buses.LATE);
        int[] want = {3, 3, 0, 0, 0, 0, 0, 2, 2};
        for (int t = 0; t < want.length; t++) {
            CHECK.told("winners " + t, x, x.winners(2, 3, t), want[t]);
        }
        CHECK.told("winners at 400", x, x.winners(2, 3, 400), 2);
        CHECK.told("winner alone", x, x.winners(2, 1, 0), 1);
        OpenLines y = Texts.made(Buses.TWO);
        CHECK.told("like words: all win", y, y.winners(1, 3, 300), 3);
    }

    private static void promises15To18() {
        OpenLines x = Texts.made(Buses.LATE);
        CHECK.told("settles", x, x.settles(2, 3), 4);
        CHECK.told("settles alone", x, x.settles(2, 1), 0);
        CHECK.told("sure", x, x.sure(2, 3), 7);
        CHECK.told("sure alone", x, x.sure(2, 2), 0);
        CHECK.told("right", x, x.right(2, 3), 2);
        CHECK.told("right alone", x, x.right(2, 1), 1);
        CHECK.told("dips", x, x.dips(2, 3), 0);
        OpenLines y = Texts.made(Buses.TWO);
        CHECK.told("settles with a dip", y, y.settles(2, 3), 2);
        CHECK.told("sure with a dip", y, y.sure(2, 3), 3);
        CHECK.told("right of like words", y, y.right(1, 3), 3);
        CHECK.told("one dip", y, y.dips(2, 3), 1);
    }

    private static void promise19Faulty() {
        OpenLines x = Texts.made(Buses.LATE);
        int[] want = {0, 0, 1, 1, 1, 1, 1, 0, 0};
        for (int t = 0; t < want.length; t++) {
            CHECK.told("faulty " + t, x, x.faulty(2, 3, t), want[t]);
        }
        CHECK.told("a bystander that sees nothing yet", x, x.faulty(2, 2, 1), 1);
        CHECK.told("a bystander that sees it all", x, x.faulty(2, 2, 2), 0);
        CHECK.told("faulty at 400", x, x.faulty(2, 3, 400), 0);
    }

    private static void promise20Edges() {
        OpenLines x = Texts.made(Buses.LATE);
        CHECK.told("line 3 as a sees it", x, x.edges(2, 3, 0, 3), 1);
        CHECK.told("line 0 as a sees it", x, x.edges(2, 3, 0, 0), 1);
        CHECK.told("line 0 as b sees it", x, x.edges(2, 3, 1, 0), 2);
        CHECK.told("line 5", x, x.edges(2, 3, 1, 5), 0);
        OpenLines y = Texts.made(Buses.TWO);
        CHECK.told("a dip", y, y.edges(2, 3, 0, 1), 2);
        CHECK.refused("line 6", y, y.edges(2, 3, 0, 6), 1);
        CHECK.refused("line -1", y, y.edges(2, 3, 0, -1), 1);
        CHECK.refused("line ahead of pass", y, y.edges(3, 3, 0, 6), 1);
    }

    private static void promise21Filters() {
        OpenLines x = Texts.made(Buses.LATE);
        CHECK.told("filter 0 does", x, x.filters(2, 3), 0);
        OpenLines y = Texts.made(Buses.LATE.replace("window 12", "window 5"));
        CHECK.told("none does so soon", y, y.filters(2, 3), -2);
        OpenLines z = Texts.made(Buses.LATE.replace("window 12", "window 6"));
        CHECK.told("filter 0 just does", z, z.filters(2, 3), 0);
        dipThatAFilterHides();
    }

    /** A dip makes the right one see itself beaten late; only buses of a longer filter hide it. */
    private static void dipThatAFilterHides() {
        String text = "bus gate 1 filter FF window WW;board a slot 2 code 10 rank 0;board b slot 4 code 30 rank 0"
                + ";board c slot 0 code 21 rank 0";
        CHECK.due("a filter above 0", Texts.made(text.replace("FF", "0").replace("WW", "11")).filters(2, 7), 4);
        OpenLines five = Texts.made("bus gate 2 filter 0 window 24;board a slot 9 code 3 rank 0;board b slot 0 code 15 rank 0"
                + ";board c slot 7 code 27 rank 0;board d slot 3 code 10 rank 0;board e slot 8 code 21 rank 0");
        CHECK.due("the greatest filter", five.filters(2, 31), 20);
        for (int window = 1; window <= 31; window += 2) {
            OpenLines x = Texts.made(text.replace("FF", "0").replace("WW", "" + window));
            for (int set = 1; set < 8; set++) {
                int want = -2;
                for (int filter = 20; filter >= 0; filter--) {
                    OpenLines y = Texts.made(text.replace("FF", "" + filter).replace("WW", "" + window));
                    int sure = y.sure(2, set);
                    want = sure >= 0 && sure <= window ? filter : want;
                }
                CHECK.told("filters of " + set + " by window " + window, x, x.filters(2, set), want);
            }
        }
    }

    private static void promises22To24AllSets() {
        OpenLines x = Texts.made(Buses.LATE);
        CHECK.told("slowest", x, x.slowest(2), 3);
        CHECK.told("settled at 0", x, x.settled(2, 0), 2);
        CHECK.told("settled at 3", x, x.settled(2, 3), 2);
        CHECK.told("settled at 4", x, x.settled(2, 4), 3);
        CHECK.told("settled at 400", x, x.settled(2, 400), 3);
        CHECK.told("enough", x, x.enough(2), 7);
        OpenLines y = Texts.made(Buses.TWO);
        CHECK.told("the least of those that settle at once", y, y.slowest(1), 1);
        CHECK.told("enough for like words", y, y.enough(1), 0);
        CHECK.told("settled at once", y, y.settled(1, 0), 3);
        OpenLines one = Texts.made("bus gate 1 filter 0 window 1;board a slot 0 code 1 rank 0");
        CHECK.told("enough for one", one, one.enough(2), 0);
        one.stick(5, 1);
        CHECK.told("never enough for one", one, one.enough(2), -2);
        CHECK.told("settled at 0", one, one.settled(2, 0), 0);
        CHECK.told("settled at 1", one, one.settled(2, 1), 1);
        CHECK.refused("slowest(0)", y, y.slowest(0), 2);
        CHECK.refused("settled(3, 0)", y, y.settled(3, 0), 2);
        CHECK.refused("settled(1, 401)", y, y.settled(1, 401), 2);
        CHECK.refused("settled(1, -1)", y, y.settled(1, -1), 2);
        CHECK.refused("enough(3)", y, y.enough(3), 2);
        OpenLines z = new OpenLines();
        CHECK.refused("slowest(0) without a bus", z, z.slowest(0), 1);
        CHECK.refused("settled(0, 0) without a bus", z, z.settled(0, 0), 1);
        CHECK.refused("enough(0) without a bus", z, z.enough(0), 1);
    }

    private static void promise25Would() {
        OpenLines x = Texts.made(Buses.THREE);
        CHECK.told("the greater rank isn't sure of itself yet", x, x.would(7), -2);
        OpenLines longer = Texts.made(Buses.THREE.replace("window 5", "window 12"));
        CHECK.told("the greater rank", longer, longer.would(7), 2);
        CHECK.told("like ranks: the greater code", x, x.would(3), 1);
        CHECK.told("alone", x, x.would(1), 0);
        x.waits(2, 0);
        CHECK.told("a rank handed on", x, x.would(3), 0);
        x.stick(5, 1);
        CHECK.told("none wins", x, x.would(3), -2);
        CHECK.due("it is no arbitration", x.now(7), 0);
        CHECK.refused("would(0)", x, x.would(0), 2);
        CHECK.refused("would(8)", x, x.would(8), 2);
        CHECK.refused("would(-1)", x, x.would(-1), 2);
        OpenLines y = Texts.made(Buses.TWO.replace("window 5", "window 1"));
        CHECK.told("too short a window", y, y.would(3), -2);
        CHECK.told("long enough for one", y, y.would(2), 1);
    }

    private static void refusals() {
        OpenLines x = Texts.made(Buses.TWO);
        String before = Buses.state(x);
        int[][] wrong = {{0, 3, 0, 2}, {3, 3, 0, 2}, {1, 0, 0, 2}, {1, 4, 0, 2}, {1, -1, 0, 2}, {2, 3, -1, 2},
            {2, 3, 401, 2}, {2, Integer.MIN_VALUE, 0, 2}, {Integer.MAX_VALUE, 3, 0, 2}};
        for (int[] row : wrong) {
            CHECK.refused("drives", x, x.drives(row[0], row[1], 0, row[2]), row[3]);
            CHECK.refused("seen", x, x.seen(row[0], row[1], 1, row[2]), row[3]);
            CHECK.refused("taken", x, x.taken(row[0], row[1], 0, row[2]), row[3]);
            CHECK.refused("withdrawn", x, x.withdrawn(row[0], row[1], 1, row[2]), row[3]);
            CHECK.refused("winners", x, x.winners(row[0], row[1], row[2]), row[3]);
            CHECK.refused("faulty", x, x.faulty(row[0], row[1], row[2]), row[3]);
            if (row[2] == 0) {
                CHECK.refused("settles", x, x.settles(row[0], row[1]), row[3]);
                CHECK.refused("sure", x, x.sure(row[0], row[1]), row[3]);
                CHECK.refused("right", x, x.right(row[0], row[1]), row[3]);
                CHECK.refused("dips", x, x.dips(row[0], row[1]), row[3]);
                CHECK.refused("filters", x, x.filters(row[0], row[1]), row[3]);
                CHECK.refused("edges", x, x.edges(row[0], row[1], 0, 0), row[3]);
            }
        }
        for (int b : new int[] {-1, 2, Integer.MAX_VALUE}) {
            CHECK.refused("drives of no board", x, x.drives(0, 3, b, 0), 1);
            CHECK.refused("seen by no board", x, x.seen(1, 0, b, 0), 1);
            CHECK.refused("taken by no board", x, x.taken(1, 3, b, -1), 1);
            CHECK.refused("withdrawn, no board", x, x.withdrawn(1, 3, b, 0), 1);
            CHECK.refused("edges, no board", x, x.edges(1, 3, b, 0), 1);
        }
        CHECK.due("nothing else has changed", Buses.state(x).equals(before), true);
        withoutBus();
    }

    private static void withoutBus() {
        OpenLines x = new OpenLines();
        CHECK.refused("drives", x, x.drives(1, 1, 0, 0), 1);
        CHECK.refused("seen", x, x.seen(1, 1, 0, 0), 1);
        CHECK.refused("taken", x, x.taken(1, 1, 0, 0), 1);
        CHECK.refused("withdrawn", x, x.withdrawn(1, 1, 0, 0), 1);
        CHECK.refused("winners", x, x.winners(0, 1, 0), 1);
        CHECK.refused("settles", x, x.settles(0, 1), 1);
        CHECK.refused("sure", x, x.sure(0, 1), 1);
        CHECK.refused("right", x, x.right(0, 1), 1);
        CHECK.refused("dips", x, x.dips(0, 1), 1);
        CHECK.refused("faulty", x, x.faulty(0, 1, 0), 1);
        CHECK.refused("edges", x, x.edges(1, 1, 0, 0), 1);
        CHECK.refused("filters", x, x.filters(0, 1), 1);
        CHECK.refused("would", x, x.would(0), 1);
    }
}
