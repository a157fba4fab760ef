/** Boundary cases of promises 35 to 43: acts, what is kept, and what is told. */
public final class ActEdgeTest {
    private static final Check CHECK = new Check("ActEdgeTest");
    private static final String SIX = Buses.text(1, 0, 5, 5, 1, 0, 0, 2, 1, 9, 4, 2, 3, 8, 3, 7, 16, 4, 2, 31, 5);

    private ActEdgeTest() {
    }

    public static void main(String[] args) throws Exception {
        Edges.run(ActEdgeTest.class, CHECK);
    }

    private static OpenLines alone(int window) {
        return Texts.made(Buses.text(1, 0, window, 4, 8, 0));
    }

    // ---- promise 35

    @Edge(promise = 35, says = "A BOARD ASKS for so many TICKS (1 .. 99).")
    static void promise35From1To99() {
        OpenLines x = Texts.made(SIX);
        int[] ticks = {1, 2, 50, 98, 99};
        for (int b = 0; b < ticks.length; b++) {
            CHECK.told("ask(" + b + ", " + ticks[b] + ")", x, x.ask(b, ticks[b]), b + 1);
            CHECK.told("it ASKS at once", x, x.board(b, 5), ticks[b]);
        }
        CHECK.refused("ask(5, 0)", x, x.ask(5, 0), 2);
        CHECK.refused("ask(5, 100)", x, x.ask(5, 100), 2);
        CHECK.told("it doesn't ASK", x, x.board(5, 5), 0);
        CHECK.told("the last BOARD", x, x.ask(5, 7), 6);
    }

    @Edge(promise = 35, says = "5 (REFUSED, counted); else how many ASK.")
    static void promise35OneThatAsksAlready() {
        OpenLines x = Texts.made(SIX);
        x.ask(2, 3);
        for (int i = 1; i <= 3; i++) {
            CHECK.refused("ask(2, 9)", x, x.ask(2, 9), 5);
            CHECK.told("REFUSED", x, x.ledger(2, 2), i);
        }
        CHECK.told("as at first", x, x.board(2, 5), 3);
        CHECK.told("one ASKS", x, x.now(5), 4);
        CHECK.told("two ASK", x, x.ask(3, 9), 2);
        CHECK.told("REFUSED of another one", x, x.ledger(3, 2), 0);
    }

    @Edge(promise = 35, says = "A BOARD ASKS from when it is told so (for how many TICKS) till it is MASTER; one that ASKS already, or is MASTER, isn't heard (REFUSED).")
    static void promise35MasterAndBehindIt() {
        OpenLines x = alone(1);
        x.ask(0, 2);
        x.ticks(2);
        CHECK.refused("in an ARBITRATION", x, x.ask(0, 5), 5);
        x.ticks(1);
        CHECK.refused("MASTER", x, x.ask(0, 5), 5);
        x.ticks(1);
        CHECK.refused("MASTER for the last TICK", x, x.ask(0, 5), 5);
        CHECK.told("REFUSED", x, x.ledger(0, 2), 3);
        x.ticks(1);
        CHECK.told("no more", x, x.ask(0, 5), 1);
        CHECK.told("REFUSED", x, x.ledger(0, 2), 3);
    }

    @Edge(promise = 35, says = "else how many ASK.")
    static void promise35ElectStillAsks() {
        OpenLines x = Texts.made(Buses.THREE);
        x.ask(0, 50);
        x.ticks(11);
        x.ask(1, 4);
        x.ticks(11);
        CHECK.told("b is ELECT", x, x.now(2), 1);
        CHECK.refused("ELECT", x, x.ask(1, 4), 5);
        CHECK.told("ELECT and another one", x, x.ask(2, 4), 2);
    }

    // ---- promise 36

    @Edge(promise = 36, says = "A BOARD WAITS for another one (-1: for none): for whom it did (-2 none).")
    static void promise36ForWhomItDid() {
        OpenLines x = Texts.made(SIX);
        CHECK.told("none", x, x.waits(5, -1), -2);
        CHECK.told("none", x, x.waits(5, 0), -2);
        CHECK.told("the first", x, x.waits(5, 4), 0);
        CHECK.told("the same again", x, x.waits(5, 4), 4);
        CHECK.told("no more", x, x.waits(5, -1), 4);
        CHECK.told("none", x, x.waits(5, -1), -2);
        CHECK.told("the last", x, x.waits(0, 5), -2);
        CHECK.told("the last", x, x.waits(0, 1), 5);
    }

    @Edge(promise = 36, says = "2 (no such one; itself)")
    static void promise36NoSuchOne() {
        OpenLines x = Texts.made(SIX);
        x.waits(3, 4);
        for (int other : new int[] {6, 7, -2, -3, 3, Integer.MIN_VALUE, Integer.MAX_VALUE}) {
            CHECK.refused("waits(3, " + other + ")", x, x.waits(3, other), 2);
            CHECK.told("it WAITS as it did", x, x.board(3, 6), 4);
        }
        OpenLines y = alone(1);
        CHECK.refused("there is no other one", y, y.waits(0, 1), 2);
        CHECK.told("but none", y, y.waits(0, -1), -2);
    }

    @Edge(promise = 36, says = "5 (that one waits for it, by others, too).")
    static void promise36ChainsOf2To6() {
        for (int length = 2; length <= 6; length++) {
            OpenLines x = Texts.made(SIX);
            for (int b = 0; b + 1 < length; b++) {
                CHECK.told("waits(" + b + ", " + (b + 1) + ")", x, x.waits(b, b + 1), -2);
            }
            for (int b = 0; b + 1 < length; b++) {
                CHECK.refused("waits(" + (length - 1) + ", " + b + ")", x, x.waits(length - 1, b), 5);
            }
            CHECK.told("it waits for none", x, x.board(length - 1, 6), -2);
            CHECK.told("nor for others in vain", x, x.waits(0, length - 1), 1);
            if (length < 6) {
                CHECK.told("for one that waits for none", x, x.waits(length - 1, 5), -2);
            }
        }
    }

    @Edge(promise = 36, says = "A BOARD may WAIT for another one (not if that one waits for it, by others, too)")
    static void promise36NoMore() {
        OpenLines x = Texts.made(SIX);
        x.waits(0, 1);
        x.waits(1, 2);
        CHECK.refused("by others", x, x.waits(2, 0), 5);
        x.waits(1, -1);
        CHECK.told("no more", x, x.waits(2, 0), -2);
        CHECK.refused("the other way now", x, x.waits(1, 2), 5);
        CHECK.told("two wait for one", x, x.waits(2, 1), 0);
        CHECK.told("waiting(1)", x, x.waiting(1), 5);
    }

    // ---- promise 37

    @Edge(promise = 37, says = "A LINE (0 .. 5) is whole (0), STICKS (1), is BROKEN (2): what it was.")
    static void promise37WhatItWas() {
        OpenLines x = Texts.made(SIX);
        int[] how = {0, 1, 1, 2, 2, 0, 2, 1, 0};
        for (int line : new int[] {0, 1, 4, 5}) {
            int was = 0;
            for (int next : how) {
                CHECK.told("stick(" + line + ", " + next + ")", x, x.stick(line, next), was);
                CHECK.due("size(3)", x.size(3), next == 0 ? 0 : 1);
                was = next;
            }
        }
    }

    @Edge(promise = 37, says = "A LINE (0 .. 5) is whole (0), STICKS (1), is BROKEN (2): what it was.")
    static void promise37EachLineOfItsOwn() {
        OpenLines x = Texts.made(SIX);
        for (int line = 0; line < 6; line++) {
            CHECK.told("whole", x, x.stick(line, 1 + line % 2), 0);
            CHECK.due("size(3)", x.size(3), line + 1);
        }
        for (int line = 0; line < 6; line++) {
            CHECK.told("as it was", x, x.stick(line, 0), 1 + line % 2);
        }
    }

    // ---- promise 38

    @Edge(promise = 38, says = "n TICKS (1 .. 999): the MASTER then (-2).")
    static void promise38From1To999() {
        OpenLines x = alone(200);
        x.ask(0, 99);
        CHECK.told("ticks(1)", x, x.ticks(1), -2);
        CHECK.told("TIME", x, x.about(5), 1);
        CHECK.told("ticks(400): BOARD 0", x, x.ticks(400), 0);
        CHECK.told("ticks(999)", x, x.ticks(999), -2);
        CHECK.told("TIME", x, x.about(5), 1400);
    }

    @Edge(promise = 38, says = "n TICKS (1 .. 999): the MASTER then (-2).")
    static void promise38AllAtOnceOrOneByOne() {
        String text = SIX + ";ask 1 a 9;ask 5 b 9;ask 40 f 9;ask 41 e 5;ask 41 a 5;ask 90 b 3";
        OpenLines x = Texts.made(text);
        x.ticks(150);
        OpenLines y = Texts.made(text);
        for (int i = 0; i < 150; i++) {
            y.ticks(1);
        }
        CHECK.due("the same", Buses.state(x).equals(Buses.state(y)), true);
        CHECK.told("something has been", x, x.now(7) > 4 ? 1 : 0, 1);
    }

    // ---- promises 39 and 40

    @Edge(promise = 39, says = "All is kept as it is (what was kept before is no more): true")
    static void promise39TheLatest() {
        OpenLines x = alone(1);
        CHECK.due("keep()", x.keep(), true);
        x.ticks(7);
        CHECK.due("keep()", x.keep(), true);
        x.ticks(1);
        x.back();
        CHECK.told("TIME", x, x.about(5), 7);
        CHECK.due("size(2)", x.size(2), 1);
    }

    @Edge(promise = 39, says = "All is kept as it is")
    static void promise39KeepChangesNothing() {
        OpenLines x = Buses.rich();
        String before = Buses.state(x);
        x.keep();
        CHECK.due("all is as it is", Buses.state(x).equals(before), true);
    }

    @Edge(promise = 40, says = "All is as it was kept (it stays kept): true")
    static void promise40AllOfARun() {
        OpenLines x = Buses.rich();
        x.keep();
        String kept = Buses.state(x);
        x.ticks(999);
        x.waits(2, -1);
        x.waits(1, 2);
        x.stick(1, 1);
        x.stick(5, 2);
        x.ask(0, 3);
        x.ask(0, 3);
        x.ticks(70);
        CHECK.due("all is else", Buses.state(x).equals(kept), false);
        CHECK.due("back()", x.back(), true);
        CHECK.due("all is as it was", Buses.state(x).equals(kept), true);
        OpenLines twin = Buses.rich();
        twin.keep();
        CHECK.due("in every call", Buses.print(x).equals(Buses.print(twin)), true);
    }

    @Edge(promise = 40, says = "All is as it was kept (it stays kept): true")
    static void promise40ItStaysKept() {
        OpenLines x = alone(1);
        x.ticks(5);
        x.keep();
        for (int i = 0; i < 3; i++) {
            x.ask(0, 9);
            x.ticks(20 + i);
            CHECK.due("back()", x.back(), true);
            CHECK.told("TIME", x, x.about(5), 5);
            CHECK.told("nobody ASKS", x, x.now(5), 0);
            CHECK.due("size(2)", x.size(2), 1);
        }
    }

    @Edge(promise = 40, says = "All is as it was kept (it stays kept): true")
    static void promise40TheLogAndThePast() {
        OpenLines x = alone(1);
        for (int i = 0; i < 18; i++) {
            x.ask(0, 1);
            x.ticks(4);
        }
        x.keep();
        for (int i = 0; i < 20; i++) {
            x.ask(0, 2);
            x.ticks(5);
        }
        x.back();
        for (int i = 0; i < 16; i++) {
            CHECK.told("log(" + i + ", 0)", x, x.log(i, 0), 71 - 4 * i);
        }
        for (int i = 0; i < 64; i++) {
            CHECK.told("past(" + i + ")", x, x.past(i), i % 4 == 1 ? 0 : -2);
        }
        CHECK.told("idle()", x, x.idle(), 48);
    }

    @Edge(promise = 40, says = "All is as it was kept (it stays kept): true")
    static void promise40SinceWhenEachAsks() {
        OpenLines x = Texts.made(Buses.text(1, 0, 5, 0, 1, 0, 1, 2, 0));
        x.ask(0, 1);
        x.ticks(3);
        x.ask(1, 1);
        x.keep();
        x.ticks(50);
        x.ask(1, 1);
        x.ticks(1);
        x.ask(0, 1);
        CHECK.told("b ASKS longer now", x, x.longest(), 1);
        x.back();
        CHECK.told("a did then", x, x.longest(), 0);
        CHECK.told("a is MASTER", x, x.ticks(8), 0);
        CHECK.told("a ASKED since 0", x, x.ledger(0, 4), 11);
        CHECK.told("b is MASTER", x, x.ticks(10), 1);
        CHECK.told("b ASKED since 3", x, x.ledger(1, 4), 18);
    }

    @Edge(promise = 40, says = "of its CONTENDERS, as its WORDS were when it began")
    static void promise40WordsOfTheArbitrationThatGoesOn() {
        OpenLines x = Texts.made(Buses.text(1, 0, 9, 0, 1, 2, 1, 2, 3, 2, 4, 7));
        x.waits(2, 0);
        x.ask(0, 1);
        x.ask(1, 1);
        x.ticks(1);
        x.keep();
        x.waits(2, -1);
        x.ticks(60);
        x.ask(1, 1);
        x.ticks(1);
        x.back();
        x.waits(2, -1);
        CHECK.told("a, as its RANK OF THE DAY was 7", x, x.ticks(18), 0);
    }

    @Edge(promise = 40, says = "false: 1 (nothing is).")
    static void promise40NothingIsKept() {
        OpenLines x = new OpenLines();
        CHECK.due("without a BUS", x.back(), false);
        CHECK.due("trouble()", x.trouble(), 1);
        Texts.bus(x, SIX);
        x.ticks(3);
        CHECK.due("nothing kept yet", x.back(), false);
        CHECK.due("trouble()", x.trouble(), 1);
        CHECK.told("TIME", x, x.about(5), 3);
        CHECK.due("size(2)", x.size(2), 0);
    }

    @Edge(promise = 3, says = "are the BUS from now on (TIME 0, all LINES whole, nothing kept)")
    static void promise3BackBehindANewBus() {
        OpenLines x = alone(1);
        x.ticks(3);
        x.keep();
        Texts.bus(x, SIX);
        CHECK.due("back()", x.back(), false);
        CHECK.due("trouble()", x.trouble(), 1);
        CHECK.told("BOARDS", x, x.about(3), 6);
        CHECK.told("TIME", x, x.about(5), 0);
        x.keep();
        x.ticks(1);
        CHECK.due("back() to this one", x.back(), true);
        CHECK.told("BOARDS", x, x.about(3), 6);
        CHECK.told("TIME", x, x.about(5), 0);
    }

    @Edge(promise = 3, says = "4 (the BUS stays, as it is).")
    static void promise3BackBehindAFault() {
        OpenLines x = alone(1);
        x.ticks(3);
        x.keep();
        x.ticks(4);
        CHECK.refused("a CODE told again", x, Texts.bus(x, Buses.text(2, 7, 9, 0, 1, 1, 1, 1, 1)), 4);
        CHECK.due("size(2)", x.size(2), 1);
        CHECK.due("back()", x.back(), true);
        CHECK.told("TIME", x, x.about(5), 3);
        CHECK.told("BOARDS", x, x.about(3), 1);
        CHECK.told("SLOT", x, x.board(0, 0), 4);
        CHECK.told("GATE", x, x.about(0), 1);
    }

    // ---- promise 41

    @Edge(promise = 41, says = "The i-th BOARD, by SLOTS, that was never MASTER.")
    static void promise41FirstAndLast() {
        OpenLines x = Texts.made(SIX);
        int[] want = {1, 5, 3, 0, 4, 2};
        for (int i = 0; i < 6; i++) {
            CHECK.due("never(" + i + ")", Texts.never(x, i), want[i]);
        }
        x.ask(3, 1);
        x.ticks(10);
        CHECK.due("not MASTER yet", Texts.never(x, 2), 3);
        x.ticks(1);
        int[] then = {1, 5, 0, 4, 2};
        for (int i = 0; i < 5; i++) {
            CHECK.due("never(" + i + ")", Texts.never(x, i), then[i]);
        }
        CHECK.due("never(5)", Texts.never(x, 5), -99);
    }

    @Edge(promise = 41, says = "NoSuchElementException if there is none such.")
    static void promise41NoneSuch() {
        OpenLines x = Texts.made(SIX);
        for (int i : new int[] {6, 7, -1, -2, Integer.MIN_VALUE, Integer.MAX_VALUE}) {
            CHECK.due("never(" + i + ")", Texts.never(x, i), -99);
        }
        OpenLines y = alone(1);
        CHECK.due("never(0)", Texts.never(y, 0), 0);
        y.ask(0, 1);
        y.ticks(3);
        CHECK.due("all were MASTER", Texts.never(y, 0), -99);
        y.ticks(999);
        CHECK.due("once is enough", Texts.never(y, 0), -99);
    }

    @Edge(promise = 41, says = "NoSuchElementException if there is none such.")
    static void promise41WithoutABus() {
        OpenLines x = new OpenLines();
        CHECK.due("never(0)", Texts.never(x, 0), -99);
        Texts.bus(x, Buses.text(1, 0, 1, 0, 1, 8));
        CHECK.due("never(0) behind a FAULT", Texts.never(x, 0), -99);
        CHECK.due("trouble() is not never's", x.trouble(), 4);
    }

    @Edge(promise = 41, says = "NoSuchElementException if there is none such.")
    static void promise41ItsOwnClass() {
        String thrown = "";
        try {
            new OpenLines().never(0);
        } catch (RuntimeException e) {
            thrown = e.getClass().getName();
        }
        CHECK.due("throws " + thrown, thrown.equals("java.util.NoSuchElementException"), true);
    }

    // ---- promise 42

    @Edge(promise = 42, says = "0 for what there isn't.")
    static void promise42WithoutABus() {
        OpenLines x = new OpenLines();
        for (int what = 0; what <= 3; what++) {
            CHECK.due("size(" + what + ")", x.size(what), 0);
        }
        x.feed(0, 0, 0, 0, 0);
        CHECK.due("size(0)", x.size(0), 20);
    }

    @Edge(promise = 42, says = "NONE for others")
    static void promise42Others() {
        for (int what : new int[] {-1, 4, 5, Integer.MIN_VALUE, Integer.MAX_VALUE}) {
            OpenLines x = new OpenLines();
            CHECK.due("size(" + what + ") without a BUS", x.size(what), OpenLines.NONE);
            CHECK.due("trouble() is not size's", x.trouble(), 0);
            Texts.bus(x, SIX);
            x.ticks(0);
            CHECK.due("size(" + what + ")", x.size(what), OpenLines.NONE);
            CHECK.due("trouble() is not size's", x.trouble(), 2);
        }
    }

    @Edge(promise = 42, says = "1 asks to come")
    static void promise42AsksToCome() {
        OpenLines x = Texts.made(SIX + ";ask 1 a 1" + ";ask 7 b 1".repeat(10) + ";ask 999 c 1");
        CHECK.due("all", x.size(1), 12);
        x.ticks(1);
        CHECK.due("at 1", x.size(1), 11);
        x.ticks(5);
        CHECK.due("at 6", x.size(1), 11);
        x.ticks(1);
        CHECK.due("at 7, heard or not", x.size(1), 1);
        x.ticks(991);
        CHECK.due("at 998", x.size(1), 1);
        x.ticks(1);
        CHECK.due("at 999", x.size(1), 0);
        x.ask(5, 1);
        CHECK.due("asks by ask() aside", x.size(1), 0);
    }

    @Edge(promise = 42, says = "2 1 if something is kept, 3 LINES that aren't whole")
    static void promise42KeptAndLines() {
        OpenLines x = Texts.made(SIX);
        CHECK.due("size(2)", x.size(2), 0);
        x.keep();
        x.keep();
        CHECK.due("size(2)", x.size(2), 1);
        for (int line = 0; line < 6; line++) {
            x.stick(line, 2 - line % 2);
            CHECK.due("size(3)", x.size(3), line + 1);
        }
        x.back();
        CHECK.due("all whole again", x.size(3), 0);
    }

    @Edge(promise = 42, says = "0 bytes of THE TAPE")
    static void promise42BytesOfTheTape() {
        OpenLines x = Texts.made(SIX);
        CHECK.due("empty", x.size(0), 0);
        for (int i = 1; i <= 36; i++) {
            x.feed(0, 0, 0, 0, 0);
            CHECK.due("size(0)", x.size(0), Math.min(20 * i, 700));
        }
        x.bus(0);
        CHECK.due("empty again", x.size(0), 0);
    }

    // ---- promise 43

    @Edge(promise = 43, says = "TROUBLE of the latest call that may be refused (those of which a number is told here)")
    static void promise43OfTheLatestCall() {
        OpenLines x = Texts.made(SIX);
        CHECK.due("0 it wasn't", x.trouble(), 0);
        x.about(6);
        CHECK.due("1 there is none such", x.trouble(), 1);
        x.about(5);
        CHECK.due("0 again", x.trouble(), 0);
        x.ticks(0);
        CHECK.due("2 a number", x.trouble(), 2);
        x.bus(0);
        CHECK.due("4 a FAULT", x.trouble(), 4);
        x.ask(0, 1);
        x.ask(0, 1);
        CHECK.due("5 not so", x.trouble(), 5);
        CHECK.due("5 still", x.trouble(), 5);
        x.keep();
        CHECK.due("0 by keep()", x.trouble(), 0);
        x.now(11);
        x.back();
        CHECK.due("0 by back()", x.trouble(), 0);
    }

    @Edge(promise = 43, says = "0 it wasn't; 1 there is none such; 2 a number; 4 a FAULT; 5 not so.")
    static void promise43EachNumber() {
        OpenLines x = alone(1);
        CHECK.told("0 it wasn't", x, x.now(7), 0);
        CHECK.refused("1 there is none such", x, x.now(11), 1);
        CHECK.refused("2 a number", x, x.ticks(1000), 2);
        CHECK.refused("4 a FAULT", x, x.bus(0), 4);
        x.ask(0, 1);
        CHECK.refused("5 not so", x, x.ask(0, 1), 5);
    }

    @Edge(promise = 43, says = "TROUBLE of the latest call that may be refused (those of which a number is told here)")
    static void promise43CallsWithoutANumber() {
        for (int trouble : new int[] {0, 1, 2, 4, 5}) {
            OpenLines x = alone(1);
            x.ask(0, 1);
            int got = trouble == 1 ? x.now(11) : trouble == 2 ? x.ticks(0) : trouble == 4 ? x.bus(0) : trouble == 5 ? x.ask(0, 1) : x.now(7);
            CHECK.due("a call", got, trouble == 0 ? 0 : -1);
            for (int i = 0; i < 36; i++) {
                x.feed(0, 0, 0, 0, 0);
            }
            x.fault();
            x.where();
            x.size(0);
            x.size(4);
            Texts.never(x, 0);
            Texts.never(x, 9);
            CHECK.due("trouble()", x.trouble(), trouble);
        }
    }

    @Edge(promise = 43, says = "Refusals of a call are met in the order in which they are told")
    static void promise43InTheirOrder() {
        OpenLines x = Texts.made(SIX);
        x.ask(0, 1);
        x.waits(0, 1);
        CHECK.refused("1 ahead of 2 and 5: ask(6, 0)", x, x.ask(6, 0), 1);
        CHECK.refused("2 ahead of 5: ask(0, 0)", x, x.ask(0, 0), 2);
        CHECK.refused("5: ask(0, 1)", x, x.ask(0, 1), 5);
        CHECK.refused("1 ahead of 2: waits(6, 6)", x, x.waits(6, 6), 1);
        CHECK.refused("2: waits(1, 1)", x, x.waits(1, 1), 2);
        CHECK.refused("5: waits(1, 0)", x, x.waits(1, 0), 5);
        CHECK.refused("2 ahead of 4: bus(1)", x, x.bus(1), 2);
        CHECK.refused("4: bus(0)", x, x.bus(0), 4);
    }
}
