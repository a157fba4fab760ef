/** Boundary cases of promises 1 to 5: a new object, THE TAPE, bus(), fault() and where(). */
public final class TapeEdgeTest {
    private static final Check CHECK = new Check("TapeEdgeTest");
    private static final String ONE = Buses.text(1, 0, 20, 0, 5, 2);

    private TapeEdgeTest() {
    }

    public static void main(String[] args) throws Exception {
        Edges.run(TapeEdgeTest.class, CHECK);
    }

    @Edge(promise = 1, says = "No BUS.")
    static void promise1NothingIsThere() {
        OpenLines x = new OpenLines();
        CHECK.due("trouble()", x.trouble(), 0);
        CHECK.due("fault()", x.fault(), 0);
        CHECK.due("where()", x.where(), OpenLines.NONE);
        for (int what = 0; what < 4; what++) {
            CHECK.due("size(" + what + ")", x.size(what), 0);
        }
        CHECK.refused("about(3)", x, x.about(3), 1);
    }

    @Edge(promise = 1, says = "No BUS.")
    static void promise1ObjectsHaveNothingInCommon() {
        OpenLines x = Texts.made(ONE);
        x.feed(1, 2, 3, 4, 5);
        OpenLines y = new OpenLines();
        CHECK.refused("about(3) of another one", y, y.about(3), 1);
        CHECK.due("size(0) of another one", y.size(0), 0);
        CHECK.told("about(3)", x, x.about(3), 1);
    }

    @Edge(promise = 1, says = "`NONE = -1`: There is none; refused.")
    static void promise1None() {
        OpenLines x = new OpenLines();
        CHECK.due("NONE", OpenLines.NONE, -1);
        CHECK.due("there is none", x.where(), -1);
        CHECK.due("refused", x.now(0), -1);
    }

    // ---- promise 2

    @Edge(promise = 2, says = "Twenty bytes come behind THE TAPE")
    static void promise2FiveNumbersInTheirOrder() {
        OpenLines x = new OpenLines();
        String text = "bus gate 2 filter 13window 147 ;board abc slot 6 code 29rank5";
        for (int at = 0; at < 60; at += 20) {
            CHECK.due("feed at " + at, x.feed(Texts.four(text, at), Texts.four(text, at + 4), Texts.four(text, at + 8),
                    Texts.four(text, at + 12), Texts.four(text, at + 16)), at + 20);
        }
        x.feed(Texts.four(text, 60), 0, 0, 0, 0);
        CHECK.told("bus(61)", x, x.bus(61), 1);
        int[] want = {2, 13, 147};
        for (int what = 0; what < 3; what++) {
            CHECK.told("about(" + what + ")", x, x.about(what), want[what]);
        }
        CHECK.told("SLOT", x, x.board(0, 0), 6);
        CHECK.told("CODE", x, x.board(0, 1), 29);
        CHECK.told("RANK", x, x.board(0, 2), 5);
    }

    @Edge(promise = 2, says = "of each number the highest first")
    static void promise2HighestByteFirst() {
        OpenLines x = new OpenLines();
        x.feed(0x62757320, 0x67617465, 0x20393939, 0x20202020, 0x20202020);
        CHECK.refused("bus(12)", x, x.bus(12), 4);
        CHECK.due("999 is no GATE: fault()", x.fault(), 4);
        CHECK.due("behind bus gate and a blank: where()", x.where(), 9);
    }

    @Edge(promise = 2, says = "of each number the highest first")
    static void promise2BytesAbove127() {
        int[] numbers = {0xff202020, 0x20ff2020, 0x2020ff20, 0x202020ff, 0x80202020, 0x20202080};
        int[] places = {0, 1, 2, 3, 0, 3};
        for (int i = 0; i < numbers.length; i++) {
            OpenLines x = new OpenLines();
            x.feed(numbers[i], -1, Integer.MIN_VALUE, 0, Integer.MAX_VALUE);
            CHECK.refused("bus(20)", x, x.bus(20), 4);
            CHECK.due("fault()", x.fault(), 1);
            CHECK.due("where() of byte " + Integer.toHexString(numbers[i]), x.where(), places[i]);
        }
    }

    @Edge(promise = 2, says = "how many it has")
    static void promise2CountsFrom20To700() {
        OpenLines x = new OpenLines();
        for (int i = 1; i <= 35; i++) {
            CHECK.due("feed " + i, x.feed(0, -1, 1, Integer.MIN_VALUE, Integer.MAX_VALUE), 20 * i);
            CHECK.due("size(0)", x.size(0), 20 * i);
        }
    }

    @Edge(promise = 2, says = "NONE, and none comes, if there would be more than 700.")
    static void promise2NoneComesBeyond700() {
        OpenLines x = full();
        for (int i = 0; i < 3; i++) {
            CHECK.due("feed beyond 700", x.feed(0, 0, 0, 0, 0), OpenLines.NONE);
            CHECK.due("size(0)", x.size(0), 700);
        }
        CHECK.told("THE TAPE is as it was: bus(700)", x, x.bus(700), 1);
        CHECK.told("its last byte, too: RANK", x, x.board(0, 2), 7);
        CHECK.due("feed of an empty tape", x.feed(0, 0, 0, 0, 0), 20);
    }

    @Edge(promise = 2, says = "NONE, and none comes, if there would be more than 700.")
    static void promise2IsNoTrouble() {
        OpenLines x = full();
        x.bus(701);
        CHECK.due("feed beyond 700", x.feed(0, 0, 0, 0, 0), OpenLines.NONE);
        CHECK.due("trouble() is that of bus(701)", x.trouble(), 2);
    }

    /** A tape of 700 bytes of which the last one is the RANK. */
    private static OpenLines full() {
        StringBuilder text = new StringBuilder("bus gate 1 filter 0 window 20;board a slot 0 code 5 rank");
        while (text.length() < 699) {
            text.append(' ');
        }
        OpenLines x = new OpenLines();
        CHECK.due("feeds of 700 bytes", Texts.feed(x, text.append('7').toString()), 700);
        return x;
    }

    // ---- promise 3

    @Edge(promise = 3, says = "THE TAPE has 700 bytes")
    static void promise3AllOf700Bytes() {
        OpenLines x = full();
        CHECK.refused("bus(701)", x, x.bus(701), 2);
        CHECK.told("bus(700)", x, x.bus(700), 1);
        CHECK.told("RANK", x, x.board(0, 2), 7);
        OpenLines y = full();
        CHECK.refused("bus(699)", y, y.bus(699), 4);
        CHECK.due("it ends there: fault()", y.fault(), 1);
        CHECK.due("where()", y.where(), 699);
    }

    @Edge(promise = 3, says = "The first n bytes of THE TAPE")
    static void promise3BytesBehindAreNotRead() {
        OpenLines x = new OpenLines();
        Texts.feed(x, ONE + "34!;;");
        CHECK.told("bus()", x, x.bus(ONE.length()), 1);
        CHECK.told("RANK", x, x.board(0, 2), 2);
        Texts.feed(x, ONE + "34!;;");
        CHECK.refused("one byte more", x, x.bus(ONE.length() + 1), 4);
        CHECK.due("rank 23: fault()", x.fault(), 4);
        Texts.feed(x, ONE + ";");
        CHECK.refused("one byte less", x, x.bus(ONE.length() - 1), 4);
        CHECK.due("no rank: fault()", x.fault(), 1);
        CHECK.due("where()", x.where(), ONE.length() - 1);
    }

    @Edge(promise = 3, says = "The first n bytes of THE TAPE")
    static void promise3WordsThatAreCut() {
        OpenLines x = new OpenLines();
        String text = ONE + ";board";
        Texts.feed(x, text);
        CHECK.refused("boar", x, x.bus(text.length() - 1), 4);
        CHECK.due("fault()", x.fault(), 1);
        CHECK.due("at boar: where()", x.where(), ONE.length() + 1);
        Texts.feed(x, text);
        CHECK.refused("board", x, x.bus(text.length()), 4);
        CHECK.due("behind board: where()", x.where(), text.length());
        String seven = ONE + ";board abcdefg";
        Texts.feed(x, seven);
        CHECK.refused("six of seven letters", x, x.bus(seven.length() - 1), 4);
        CHECK.due("behind them: where()", x.where(), seven.length() - 1);
    }

    @Edge(promise = 3, says = "(it is empty then)")
    static void promise3TapeIsEmptyBehindABus() {
        OpenLines x = new OpenLines();
        Texts.feed(x, ONE + ";board");
        x.bus(ONE.length());
        CHECK.due("its rest is gone, too: size(0)", x.size(0), 0);
        CHECK.refused("bus(1)", x, x.bus(1), 2);
        CHECK.due("feed", x.feed(0, 0, 0, 0, 0), 20);
    }

    @Edge(promise = 3, says = "(it is empty then)")
    static void promise3TapeIsEmptyBehindAFault() {
        OpenLines x = new OpenLines();
        Texts.feed(x, "bus gate 9" + ONE);
        CHECK.refused("bus(10)", x, x.bus(10), 4);
        CHECK.due("size(0)", x.size(0), 0);
        CHECK.due("feed", x.feed(0, 0, 0, 0, 0), 20);
    }

    @Edge(promise = 3, says = "NONE: 2 (n; THE TAPE stays)")
    static void promise3NumbersOutOfTheTape() {
        OpenLines x = new OpenLines();
        CHECK.refused("bus(1) of an empty tape", x, x.bus(1), 2);
        Texts.feed(x, ONE);
        for (int n : new int[] {-1, 61, 700, 701, Integer.MIN_VALUE, Integer.MAX_VALUE}) {
            CHECK.refused("bus(" + n + ") of 60 bytes", x, x.bus(n), 2);
            CHECK.due("THE TAPE stays: size(0)", x.size(0), 60);
        }
        CHECK.told("bus(60)", x, x.bus(60), 1);
    }

    @Edge(promise = 3, says = "NONE: 2 (n; THE TAPE stays)")
    static void promise3RefusedByTwoLeavesTheBus() {
        String before = Buses.print(Buses.rich());
        OpenLines x = Buses.rich();
        CHECK.refused("bus(41)", x, x.bus(41), 2);
        CHECK.due("size(0)", x.size(0), 40);
        CHECK.due("all is as it was", Buses.print(x).equals(before), true);
    }

    @Edge(promise = 3, says = "The first n bytes of THE TAPE")
    static void promise3NoByteAtAll() {
        OpenLines x = new OpenLines();
        CHECK.refused("bus(0) of an empty tape", x, x.bus(0), 4);
        CHECK.due("fault()", x.fault(), 1);
        CHECK.due("where()", x.where(), 0);
        Texts.feed(x, ONE);
        CHECK.refused("bus(0)", x, x.bus(0), 4);
        CHECK.due("size(0)", x.size(0), 0);
    }

    @Edge(promise = 3, says = "4 (the BUS stays, as it is).")
    static void promise3RefusedByFourLeavesTheBus() {
        OpenLines twin = Buses.rich();
        twin.bus(0);
        OpenLines x = Buses.rich();
        x.bus(0);
        Texts.feed(x, Buses.text(3, 7, 9, 1, 1, 1, 2, 2, 8));
        CHECK.refused("a RANK of 8", x, x.bus(x.size(0)), 4);
        String told = Buses.print(x).replaceFirst("\\|4 ", "|1 ");
        CHECK.due("all is as it was but for fault()", told.equals(Buses.print(twin)), true);
    }

    @Edge(promise = 3, says = "4 (the BUS stays, as it is).")
    static void promise3NoneStaysNone() {
        OpenLines x = new OpenLines();
        CHECK.refused("a RANK of 8", x, Texts.bus(x, Buses.text(1, 0, 20, 0, 5, 8)), 4);
        CHECK.refused("about(3)", x, x.about(3), 1);
        CHECK.refused("board(0, 0)", x, x.board(0, 0), 1);
        CHECK.due("size(1)", x.size(1), 0);
    }

    @Edge(promise = 3, says = "are the BUS from now on (TIME 0, all LINES whole, nothing kept)")
    static void promise3TimeIs0() {
        OpenLines x = Buses.rich();
        CHECK.due("TIME", x.about(5) > 0, true);
        CHECK.told("another BUS", x, Texts.bus(x, ONE), 1);
        CHECK.told("TIME", x, x.about(5), 0);
    }

    @Edge(promise = 3, says = "are the BUS from now on (TIME 0, all LINES whole, nothing kept)")
    static void promise3AllLinesAreWhole() {
        OpenLines x = Texts.made(ONE);
        for (int line = 0; line < 6; line++) {
            x.stick(line, 1 + line % 2);
        }
        Texts.bus(x, ONE);
        CHECK.due("size(3)", x.size(3), 0);
        for (int line = 0; line < 6; line++) {
            CHECK.told("stick(" + line + ", 0)", x, x.stick(line, 0), 0);
        }
    }

    @Edge(promise = 3, says = "are the BUS from now on (TIME 0, all LINES whole, nothing kept)")
    static void promise3NothingIsKept() {
        OpenLines x = Texts.made(ONE);
        x.keep();
        Texts.bus(x, ONE);
        CHECK.due("size(2)", x.size(2), 0);
        CHECK.due("back()", x.back(), false);
        CHECK.due("trouble()", x.trouble(), 1);
    }

    @Edge(promise = 3, says = "are the BUS from now on (TIME 0, all LINES whole, nothing kept)")
    static void promise3NothingOfTheRunBefore() {
        OpenLines x = Buses.rich();
        Texts.bus(x, Buses.THREE);
        CHECK.due("all is as with a new object", Buses.print(x).equals(Buses.print(Texts.made(Buses.THREE))), true);
    }

    @Edge(promise = 3, says = "are the BUS from now on (TIME 0, all LINES whole, nothing kept)")
    static void promise3NothingOfTheTextsBefore() {
        String full = ONE + ";ask 2 a 9".repeat(11) + ";ask 999 a 9";
        String[][] before = {{full}, {full + ";"}, {full, full}, {full, ONE}, {full, full + ";"}, {full + ";", full}, {full, full, full}};
        for (String[] texts : before) {
            OpenLines x = new OpenLines();
            for (String text : texts) {
                Texts.bus(x, text);
            }
            CHECK.told("a TIME less than those of the text before", x, Texts.bus(x, ONE + ";ask 3 a 7"), 1);
            CHECK.told("asks told", x, x.about(4), 1);
            CHECK.due("asks to come", x.size(1), 1);
            x.ticks(2);
            CHECK.told("nobody ASKS", x, x.now(5), 0);
            x.ticks(1);
            CHECK.told("TICKS", x, x.board(0, 5), 7);
            CHECK.told("nobody was REFUSED", x, x.ledger(0, 2), 0);
            CHECK.due("asks to come", x.size(1), 0);
        }
    }

    @Edge(promise = 3, says = "are the BUS from now on (TIME 0, all LINES whole, nothing kept)")
    static void promise3NothingIsCounted() {
        String text = Buses.text(1, 0, 20, 0, 1, 2, 1, 2, 3, 2, 4, 7);
        OpenLines x = Texts.made(text + ";ask 1 a 50;ask 42 b 5;ask 83 c 5;ask 83 c 5");
        x.ticks(150);
        // c has put b off at 123; b alone fails at 163, as it sees LINES 5 and 4, and begins a ROUND at 203
        x.stick(5, 1);
        x.stick(4, 1);
        x.ticks(13);
        x.stick(5, 0);
        x.stick(4, 0);
        x.ticks(100);
        for (int what = 6; what <= 10; what++) {
            CHECK.due("now(" + what + ") is counted", x.now(what) > 0, true);
        }
        CHECK.told("another BUS", x, Texts.bus(x, text), 3);
        for (int what = 6; what <= 10; what++) {
            CHECK.told("now(" + what + ")", x, x.now(what), 0);
        }
        for (int what = 0; what <= 5; what++) {
            for (int b = 0; b < 3; b++) {
                CHECK.told("ledger(" + b + ", " + what + ")", x, x.ledger(b, what), what == 4 ? -2 : 0);
            }
        }
        CHECK.refused("THE LOG is empty", x, x.log(0, 0), 1);
        CHECK.told("nobody was MASTER", x, x.past(0), -2);
    }

    @Edge(promise = 3, says = "how many BOARDS")
    static void promise3OneToSix() {
        OpenLines x = new OpenLines();
        for (int boards = 1; boards <= 6; boards++) {
            int[] told = new int[3 * boards];
            for (int b = 0; b < boards; b++) {
                told[3 * b] = b;
                told[3 * b + 1] = b + 1;
            }
            CHECK.told("bus() of " + boards, x, Texts.bus(x, Buses.text(1, 0, 20, told)), boards);
        }
    }

    // ---- promises 4 and 5

    @Edge(promise = 4, says = "The FAULT of the latest bus() not refused by 2")
    static void promise4StaysBehindOneRefusedByTwo() {
        OpenLines x = new OpenLines();
        Texts.bus(x, "bus gate 9");
        CHECK.due("fault()", x.fault(), 4);
        x.bus(1);
        CHECK.due("fault() behind bus(1) of an empty tape", x.fault(), 4);
        x.bus(-1);
        CHECK.due("fault() behind bus(-1)", x.fault(), 4);
        Texts.bus(x, "board");
        CHECK.due("the latest", x.fault(), 6);
    }

    @Edge(promise = 4, says = "The FAULT of the latest bus() not refused by 2")
    static void promise4StaysBehindOtherCalls() {
        OpenLines x = Texts.made(ONE);
        Texts.bus(x, "bus gate 9");
        x.ask(0, 1);
        x.ask(0, 1);
        x.about(9);
        x.ticks(0);
        x.keep();
        x.back();
        CHECK.due("fault()", x.fault(), 4);
    }

    @Edge(promise = 4, says = "0 without one.")
    static void promise4NoFault() {
        OpenLines x = new OpenLines();
        CHECK.due("fault() ahead of any bus()", x.fault(), 0);
        x.bus(5);
        CHECK.due("fault() behind one refused by 2", x.fault(), 0);
        Texts.bus(x, "bus gate 9");
        Texts.bus(x, ONE);
        CHECK.due("fault() behind a BUS", x.fault(), 0);
        x.bus(5);
        CHECK.due("fault() behind one refused by 2", x.fault(), 0);
    }

    @Edge(promise = 5, says = "Its place, if the latest call that may be refused was by 4")
    static void promise5FirstAndLastPlace() {
        OpenLines x = new OpenLines();
        Texts.bus(x, "!");
        CHECK.due("the first byte", x.where(), 0);
        Texts.bus(x, "bus gate 1 filter 0 window 20");
        CHECK.due("the end", x.where(), 29);
        OpenLines y = full();
        y.bus(699);
        CHECK.due("far behind", y.where(), 699);
    }

    @Edge(promise = 5, says = "Its place, if the latest call that may be refused was by 4")
    static void promise5CallsThatMayNotBeRefused() {
        OpenLines x = new OpenLines();
        Texts.bus(x, "bus gate 9");
        x.feed(0, 0, 0, 0, 0);
        x.fault();
        x.where();
        x.size(0);
        x.size(9);
        x.trouble();
        Texts.never(x, 0);
        CHECK.due("where()", x.where(), 9);
        CHECK.due("where() again", x.where(), 9);
    }

    @Edge(promise = 5, says = "NONE else.")
    static void promise5NoneWithoutAFault() {
        OpenLines x = new OpenLines();
        CHECK.due("where() of a new object", x.where(), OpenLines.NONE);
        x.bus(1);
        CHECK.due("where() behind a bus() refused by 2", x.where(), OpenLines.NONE);
        Texts.bus(x, ONE);
        CHECK.due("where() behind a BUS", x.where(), OpenLines.NONE);
    }

    @Edge(promise = 5, says = "NONE else.")
    static void promise5NoneBehindOtherRefusals() {
        for (int trouble : new int[] {1, 2, 5}) {
            OpenLines x = Texts.made(ONE);
            x.ask(0, 1);
            Texts.bus(x, "bus gate 9");
            CHECK.due("where()", x.where(), 9);
            CHECK.refused("a call", x, trouble == 1 ? x.now(11) : trouble == 2 ? x.ticks(0) : x.ask(0, 1), trouble);
            CHECK.due("where() behind one refused by " + trouble, x.where(), OpenLines.NONE);
            CHECK.due("fault() stays", x.fault(), 4);
        }
    }

    @Edge(promise = 5, says = "NONE else.")
    static void promise5NoneBehindACallNotRefused() {
        for (int call = 0; call < 4; call++) {
            OpenLines x = Texts.made(ONE);
            x.keep();
            Texts.bus(x, "bus gate 9");
            boolean done = call == 0 ? x.keep() : call == 1 ? x.back() : call == 2 ? x.about(0) == 1 : x.right(1, 1) == 1;
            CHECK.due("call " + call, done, true);
            CHECK.due("where() behind it", x.where(), OpenLines.NONE);
        }
    }

    @Edge(promise = 5, says = "NONE else.")
    static void promise5NoneBehindABusRefusedByTwo() {
        OpenLines x = new OpenLines();
        Texts.bus(x, "bus gate 9");
        x.bus(-1);
        CHECK.due("fault() is still told", x.fault(), 4);
        CHECK.due("where()", x.where(), OpenLines.NONE);
    }
}
