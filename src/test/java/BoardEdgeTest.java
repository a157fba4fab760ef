/** Boundary cases of promises 6 to 9: about(), board(), named() and word(). */
public final class BoardEdgeTest {
    private static final Check CHECK = new Check("BoardEdgeTest");
    private static final String SIX = Buses.text(3, 20, 200, 9, 31, 7, 0, 1, 0, 8, 2, 1, 7, 3, 2, 6, 4, 3, 5, 6, 4);

    private BoardEdgeTest() {
    }

    public static void main(String[] args) throws Exception {
        Edges.run(BoardEdgeTest.class, CHECK);
    }

    // ---- promise 6

    @Edge(promise = 6, says = "0 GATE, 1 FILTER, 2 WINDOW, 3 BOARDS, 4 asks told, 5 TIME.")
    static void promise6LeastOfEach() {
        OpenLines x = Texts.made(Buses.text(1, 0, 1, 0, 1, 0));
        int[] want = {1, 0, 1, 1, 0, 0};
        for (int what = 0; what <= 5; what++) {
            CHECK.told("about(" + what + ")", x, x.about(what), want[what]);
        }
    }

    @Edge(promise = 6, says = "0 GATE, 1 FILTER, 2 WINDOW, 3 BOARDS, 4 asks told, 5 TIME.")
    static void promise6GreatestOfEach() {
        OpenLines x = Texts.made(SIX + ";ask 999 f 99".repeat(12));
        x.ticks(999);
        int[] want = {3, 20, 200, 6, 12, 999};
        for (int what = 0; what <= 5; what++) {
            CHECK.told("about(" + what + ")", x, x.about(what), want[what]);
        }
    }

    @Edge(promise = 6, says = "4 asks told, 5 TIME")
    static void promise6AsksToldStayTold() {
        OpenLines x = Texts.made(Buses.TWO + ";ask 2 a 1;ask 3 a 1");
        x.ask(1, 1);
        x.ticks(5);
        CHECK.told("also behind their TIME, and asks by ask() aside", x, x.about(4), 2);
    }

    @Edge(promise = 6, says = "4 asks told, 5 TIME")
    static void promise6TimeGoesOnBeyond999() {
        OpenLines x = Texts.made(Buses.TWO);
        x.ticks(999);
        x.ticks(1);
        CHECK.told("TIME", x, x.about(5), 1000);
        x.ticks(999);
        x.ticks(999);
        CHECK.told("TIME", x, x.about(5), 2998);
    }

    // ---- promise 7

    @Edge(promise = 7, says = "Of a BOARD 0 its SLOT, 1 CODE, 2 RANK")
    static void promise7FirstAndLastBoard() {
        OpenLines x = Texts.made(SIX);
        int[] first = {9, 31, 7, 7, 1, 0, -2};
        int[] last = {5, 6, 4, 4, 1, 0, -2};
        for (int what = 0; what <= 6; what++) {
            CHECK.told("board(0, " + what + ")", x, x.board(0, what), first[what]);
            CHECK.told("board(5, " + what + ")", x, x.board(5, what), last[what]);
        }
    }

    @Edge(promise = 7, says = "3 RANK OF THE DAY")
    static void promise7RankOfTheDay() {
        OpenLines x = Texts.made(SIX);
        x.waits(1, 0);
        CHECK.told("its own, if none that waits has a greater one", x, x.board(0, 3), 7);
        CHECK.told("its own, though it waits", x, x.board(1, 3), 0);
        x.waits(0, 2);
        CHECK.told("that of one that waits for it", x, x.board(2, 3), 7);
        CHECK.told("its RANK is as it was", x, x.board(2, 2), 1);
        CHECK.told("who waits hands on, but has it still", x, x.board(0, 3), 7);
    }

    @Edge(promise = 7, says = "RANK OF THE DAY: the greatest RANK of it and all that wait for it (by others, too).")
    static void promise7GreatestOfAllThatWait() {
        OpenLines x = Texts.made(Buses.text(1, 0, 20, 0, 1, 0, 1, 2, 3, 2, 3, 7, 3, 4, 5));
        CHECK.told("none waits", x, x.board(0, 3), 0);
        x.waits(1, 0);
        CHECK.told("one waits", x, x.board(0, 3), 3);
        x.waits(2, 1);
        CHECK.told("by others", x, x.board(0, 3), 7);
        CHECK.told("the one between", x, x.board(1, 3), 7);
        x.waits(3, 0);
        CHECK.told("one more, that is less", x, x.board(0, 3), 7);
        x.waits(2, -1);
        CHECK.told("no more", x, x.board(0, 3), 5);
        CHECK.told("the one between", x, x.board(1, 3), 3);
        x.waits(3, -1);
        x.waits(1, -1);
        CHECK.told("none waits", x, x.board(0, 3), 0);
    }

    @Edge(promise = 7, says = "FRESH are all BOARDS at first.")
    static void promise7AllFreshAtFirst() {
        OpenLines x = Texts.made(SIX);
        for (int b = 0; b < 6; b++) {
            CHECK.told("board(" + b + ", 4)", x, x.board(b, 4), 1);
        }
        x.ticks(999);
        CHECK.told("till one is ELECT", x, x.board(5, 4), 1);
    }

    @Edge(promise = 7, says = "4 1 FRESH, 0")
    static void promise7FreshTillElected() {
        OpenLines x = Texts.made(Buses.TWO);
        x.ask(0, 1);
        x.ticks(10);
        CHECK.told("ahead of it", x, x.board(0, 4), 1);
        x.ticks(1);
        CHECK.told("FRESH no more", x, x.board(0, 4), 0);
        CHECK.told("the other one", x, x.board(1, 4), 1);
    }

    @Edge(promise = 7, says = "5 for how many TICKS it ASKS (0 it doesn't)")
    static void promise7AsksTillItIsMaster() {
        OpenLines x = Texts.made(Buses.TWO);
        CHECK.told("it doesn't", x, x.board(0, 5), 0);
        x.ask(0, 99);
        x.ask(1, 1);
        CHECK.told("the most", x, x.board(0, 5), 99);
        CHECK.told("the least", x, x.board(1, 5), 1);
        x.ticks(10);
        CHECK.told("it isn't MASTER yet", x, x.board(1, 5), 1);
        x.ticks(1);
        CHECK.told("MASTER", x, x.board(1, 5), 0);
        CHECK.told("the other one", x, x.board(0, 5), 99);
    }

    @Edge(promise = 7, says = "6 for whom it WAITS (-2)")
    static void promise7ForWhomItWaits() {
        OpenLines x = Texts.made(SIX);
        CHECK.told("for none", x, x.board(5, 6), -2);
        x.waits(5, 0);
        CHECK.told("for the first one", x, x.board(5, 6), 0);
        x.waits(5, 4);
        CHECK.told("for another one", x, x.board(5, 6), 4);
        x.waits(5, -1);
        CHECK.told("for none again", x, x.board(5, 6), -2);
    }

    // ---- promise 8

    @Edge(promise = 8, says = "The BOARD of a CODE.")
    static void promise8LeastAndGreatestCode() {
        OpenLines x = Texts.made(SIX);
        CHECK.told("named(31)", x, x.named(31), 0);
        CHECK.told("named(1)", x, x.named(1), 1);
        CHECK.told("named(6)", x, x.named(6), 5);
    }

    @Edge(promise = 8, says = "The BOARD of a CODE. NONE: 1.")
    static void promise8NoSuchCode() {
        for (int code : new int[] {0, 5, 30, 32, -1, Integer.MIN_VALUE, Integer.MAX_VALUE}) {
            OpenLines x = Texts.made(SIX);
            CHECK.refused("named(" + code + ")", x, x.named(code), 1);
        }
    }

    @Edge(promise = 8, says = "The BOARD of a CODE. NONE: 1.")
    static void promise8CodesOfAnotherBus() {
        OpenLines x = Texts.made(SIX);
        Texts.bus(x, Buses.text(1, 0, 1, 0, 9, 0));
        CHECK.refused("of the BUS before", x, x.named(6), 1);
        CHECK.told("of this one", x, x.named(9), 0);
        Texts.bus(x, Buses.text(1, 0, 1, 0, 17, 8));
        CHECK.refused("of a text with a FAULT", x, x.named(17), 1);
    }

    // ---- promise 9

    @Edge(promise = 9, says = "PASS 1: bits 5 .. 3: RANK OF THE DAY (see III), 2: 1 if the BOARD is FRESH, 1: 0")
    static void promise9WordsOfPass1() {
        int[] fresh = {0b000100, 0b001101, 0b010101, 0b011100, 0b100101, 0b101100, 0b110100, 0b111101};
        int[] stale = {0b000001, 0b001000, 0b010000, 0b011001, 0b100000, 0b101001, 0b110001, 0b111000};
        for (int rank = 0; rank <= 7; rank++) {
            OpenLines x = Texts.made(Buses.text(1, 0, 1, 0, 1, rank));
            CHECK.told("FRESH of RANK " + rank, x, x.word(0, 1), fresh[rank]);
            x.ask(0, 1);
            x.ticks(3);
            CHECK.told("not FRESH of RANK " + rank, x, x.word(0, 1), stale[rank]);
        }
    }

    @Edge(promise = 9, says = "PASS 2: bits 5 .. 1: CODE; bit 0 of either: so that an odd number of bits are 1 (PARITY).")
    static void promise9WordsOfPass2() {
        for (int code = 1; code <= 31; code++) {
            OpenLines x = Texts.made(Buses.text(1, 0, 1, 0, code, 0));
            int even = Integer.bitCount(code) % 2 == 0 ? 1 : 0;
            CHECK.told("CODE " + code, x, x.word(0, 2), 2 * code + even);
        }
    }

    @Edge(promise = 9, says = "Its WORD in a PASS (1, 2), as it is now.")
    static void promise9AsItIsNow() {
        OpenLines x = Texts.made(Buses.THREE);
        x.ask(0, 9);
        x.ticks(1);
        x.waits(2, 0);
        CHECK.told("while an ARBITRATION by other WORDS goes on", x, x.word(0, 1), 0b110100);
        x.waits(2, -1);
        CHECK.told("a RANK handed on no more", x, x.word(0, 1), 0b010101);
        x.stick(5, 1);
        CHECK.told("LINES are not of it", x, x.word(0, 1), 0b010101);
        CHECK.told("nor RANKS of PASS 2", x, x.word(0, 2), 0b001011);
    }
}
