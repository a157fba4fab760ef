/** Promises 35 to 43: acts, and what is told. */
public final class ActsTest {
    private static final Check CHECK = new Check("ActsTest");

    private ActsTest() {
    }

    public static void main(String[] args) {
        promise35Ask();
        promise36Waits();
        promise37Stick();
        promise38Ticks();
        promise39And40KeepAndBack();
        promise39And40Since();
        promise39And40Tape();
        promise41Never();
        promise42Size();
        promise43Trouble();
        CHECK.end();
    }

    private static void promise35Ask() {
        OpenLines x = Texts.made(Buses.THREE);
        String before = Buses.state(x);
        CHECK.refused("ask(3, 0)", x, x.ask(3, 0), 1);
        CHECK.refused("ask(-1, 5)", x, x.ask(-1, 5), 1);
        CHECK.refused("ask(0, 0)", x, x.ask(0, 0), 2);
        CHECK.refused("ask(0, 100)", x, x.ask(0, 100), 2);
        CHECK.due("nothing has changed", Buses.state(x).equals(before), true);
        CHECK.told("ask(0, 1)", x, x.ask(0, 1), 1);
        CHECK.told("ask(1, 99)", x, x.ask(1, 99), 2);
        CHECK.refused("ask(0, 0) of one that asks", x, x.ask(0, 0), 2);
        CHECK.refused("ask(0, 5) of one that asks", x, x.ask(0, 5), 5);
        CHECK.due("refused, counted", x.ledger(0, 2), 1);
        CHECK.due("for as long as at first", x.board(0, 5), 1);
        x.ticks(11);
        CHECK.due("b is master", x.now(0), 1);
        CHECK.refused("ask(1, 5) of the master", x, x.ask(1, 5), 5);
        CHECK.due("refused, counted", x.ledger(1, 2), 1);
        CHECK.due("a alone asks", x.now(5), 1);
        CHECK.told("ask(2, 5)", x, x.ask(2, 5), 2);
        OpenLines y = new OpenLines();
        CHECK.refused("ask(0, 1) without a bus", y, y.ask(0, 1), 1);
    }

    private static void promise36Waits() {
        OpenLines x = Texts.made(Buses.THREE);
        CHECK.told("waits(2, 0)", x, x.waits(2, 0), -2);
        CHECK.told("waits(0, 1)", x, x.waits(0, 1), -2);
        String before = Buses.state(x);
        CHECK.refused("waits(1, 0), which waits for it", x, x.waits(1, 0), 5);
        CHECK.refused("waits(1, 2), which does by others", x, x.waits(1, 2), 5);
        CHECK.refused("waits(1, 1)", x, x.waits(1, 1), 2);
        CHECK.refused("waits(1, 3)", x, x.waits(1, 3), 2);
        CHECK.refused("waits(1, -2)", x, x.waits(1, -2), 2);
        CHECK.refused("waits(3, 3)", x, x.waits(3, 3), 1);
        CHECK.refused("waits(-1, 0)", x, x.waits(-1, 0), 1);
        CHECK.due("nothing has changed", Buses.state(x).equals(before), true);
        CHECK.told("for another one", x, x.waits(2, 1), 0);
        CHECK.told("for the same", x, x.waits(2, 1), 1);
        CHECK.told("for none", x, x.waits(2, -1), 1);
        CHECK.told("for none again", x, x.waits(2, -1), -2);
        CHECK.told("waits(1, 2) now", x, x.waits(1, 2), -2);
        OpenLines y = new OpenLines();
        CHECK.refused("waits(0, -1) without a bus", y, y.waits(0, -1), 1);
        handedOnInARun();
    }

    /** A rank that is handed on while one is elect makes an arbitration begin. */
    private static void handedOnInARun() {
        OpenLines x = Texts.made(Buses.THREE);
        x.ask(0, 40);
        x.ticks(11);
        x.ask(0, 1);
        x.ask(1, 3);
        x.ticks(11);
        CHECK.due("b is elect", x.now(2), 1);
        x.ticks(2);
        CHECK.due("no arbitration", x.now(3), -2);
        x.waits(2, 1);
        CHECK.due("a greater rank of the elect itself changes nothing", x.will(1, 3), -2);
        x.waits(2, -1);
        x.ask(2, 1);
        CHECK.due("a greater one does", x.will(1, 4), 6);
        x.waits(2, 1);
        CHECK.due("not if its rank is handed on to the elect", x.will(1, 3), -2);
    }

    private static void promise37Stick() {
        OpenLines x = Texts.made(Buses.TWO);
        CHECK.told("stick(0, 1)", x, x.stick(0, 1), 0);
        CHECK.told("stick(0, 2)", x, x.stick(0, 2), 1);
        CHECK.told("stick(5, 2)", x, x.stick(5, 2), 0);
        CHECK.due("size(3)", x.size(3), 2);
        CHECK.told("stick(0, 0)", x, x.stick(0, 0), 2);
        CHECK.told("stick(0, 0) again", x, x.stick(0, 0), 0);
        CHECK.due("size(3)", x.size(3), 1);
        String before = Buses.state(x);
        CHECK.refused("stick(6, 3)", x, x.stick(6, 3), 1);
        CHECK.refused("stick(-1, 0)", x, x.stick(-1, 0), 1);
        CHECK.refused("stick(5, 3)", x, x.stick(5, 3), 2);
        CHECK.refused("stick(5, -1)", x, x.stick(5, -1), 2);
        CHECK.due("nothing has changed", Buses.state(x).equals(before), true);
        OpenLines y = new OpenLines();
        CHECK.refused("stick(0, 0) without a bus", y, y.stick(0, 0), 1);
    }

    private static void promise38Ticks() {
        OpenLines x = Texts.made(Buses.TWO + ";ask 11 b 99");
        CHECK.told("ticks(999)", x, x.ticks(999), -2);
        CHECK.due("TIME", x.about(5), 999);
        CHECK.due("b was master", x.ledger(1, 1), 99);
        CHECK.refused("ticks(0)", x, x.ticks(0), 2);
        CHECK.refused("ticks(1000)", x, x.ticks(1000), 2);
        CHECK.refused("ticks(-1)", x, x.ticks(-1), 2);
        CHECK.due("TIME stays", x.about(5), 999);
        OpenLines y = new OpenLines();
        CHECK.refused("ticks(0) without a bus", y, y.ticks(0), 1);
        OpenLines z = Texts.made(Buses.TWO + ";ask 11 b 99");
        CHECK.told("ticks(21), the master", z, z.ticks(21), 1);
    }

    private static void promise39And40KeepAndBack() {
        OpenLines x = new OpenLines();
        CHECK.due("keep() without a bus", x.keep(), false);
        CHECK.due("trouble()", x.trouble(), 1);
        CHECK.due("back() without a bus", x.back(), false);
        CHECK.due("trouble()", x.trouble(), 1);
        Texts.bus(x, Buses.TWO + ";ask 5 a 3;ask 40 b 2");
        CHECK.due("back() of nothing", x.back(), false);
        CHECK.due("trouble()", x.trouble(), 1);
        x.ticks(12);
        x.waits(0, 1);
        x.stick(1, 1);
        CHECK.due("keep()", x.keep(), true);
        CHECK.due("trouble()", x.trouble(), 0);
        String kept = Buses.state(x);
        x.waits(0, -1);
        x.stick(1, 0);
        x.stick(4, 2);
        x.ask(1, 9);
        x.ask(1, 9);
        x.ticks(200);
        CHECK.due("all is else", Buses.state(x).equals(kept), false);
        CHECK.due("back()", x.back(), true);
        CHECK.due("trouble()", x.trouble(), 0);
        CHECK.due("all is as it was kept", Buses.state(x).equals(kept), true);
        x.ticks(3);
        CHECK.due("it stays kept", x.back(), true);
        CHECK.due("all is as it was kept", Buses.state(x).equals(kept), true);
        int next = x.ticks(30);
        x.back();
        CHECK.due("it goes on in the same way", x.ticks(30), next);
        x.keep();
        String later = Buses.state(x);
        x.ticks(1);
        x.back();
        CHECK.due("what was kept before is no more", Buses.state(x).equals(later), true);
    }

    private static void promise39And40Since() {
        OpenLines x = Texts.made("bus gate 1 filter 0 window 1;board a slot 0 code 1 rank 0;board b slot 1 code 2 rank 1");
        for (int i = 0; i < 5; i++) {
            x.ask(0, 1);
            x.ticks(4);
        }
        x.ask(1, 1);
        x.ticks(1);
        x.ask(0, 1);
        x.keep();
        CHECK.due("b asked first", x.longest(), 1);
        for (int i = 0; i < 20; i++) {
            x.ticks(4);
            x.ask(0, 1);
        }
        x.ask(1, 1);
        x.back();
        CHECK.due("b asked first, again", x.longest(), 1);
        for (int i = 0; i < 5; i++) {
            CHECK.due("log(" + i + ", 0)", x.log(i, 0), 19 - 4 * i);
        }
        x.ticks(2);
        CHECK.due("b asked for 3 ticks", x.ledger(1, 4), 3);
        CHECK.due("trouble() behind a keep() and a back()", x.keep() && x.back() && x.trouble() == 0, true);
        x.now(99);
        x.keep();
        CHECK.due("trouble() behind keep()", x.trouble(), 0);
        x.now(99);
        x.back();
        CHECK.due("trouble() behind back()", x.trouble(), 0);
    }

    /** The tape is no part of the bus that is kept: it is as the latest feed() and bus() left it. */
    private static void promise39And40Tape() {
        OpenLines x = Texts.made(Buses.TWO);
        x.keep();
        x.feed(0, 0, 0, 0, 0);
        x.back();
        CHECK.due("size(0)", x.size(0), 20);
    }

    private static void promise41Never() {
        OpenLines x = new OpenLines();
        CHECK.due("never(0) without a bus", Texts.never(x, 0), -99);
        Texts.bus(x, "bus gate 1 filter 0 window 9;board a slot 7 code 1 rank 0;board b slot 2 code 2 rank 0"
                + ";board c slot 5 code 3 rank 0;ask 1 c 1");
        int[] want = {1, 2, 0};
        for (int i = 0; i < 3; i++) {
            CHECK.due("never(" + i + ")", Texts.never(x, i), want[i]);
        }
        CHECK.due("never(3)", Texts.never(x, 3), -99);
        CHECK.due("never(-1)", Texts.never(x, -1), -99);
        CHECK.due("never(MIN)", Texts.never(x, Integer.MIN_VALUE), -99);
        CHECK.due("trouble() is not never's", x.trouble(), 0);
        x.ticks(19);
        CHECK.due("c is master", x.now(0), 2);
        CHECK.due("never(0)", Texts.never(x, 0), 1);
        CHECK.due("never(1)", Texts.never(x, 1), 0);
        CHECK.due("never(2)", Texts.never(x, 2), -99);
        x.ask(0, 1);
        x.ticks(30);
        CHECK.due("never(0)", Texts.never(x, 0), 1);
        x.ask(1, 1);
        x.ticks(30);
        CHECK.due("all were", Texts.never(x, 0), -99);
    }

    private static void promise42Size() {
        OpenLines x = Texts.made(Buses.TWO + ";ask 5 a 3;ask 5 b 3;ask 7 b 1");
        CHECK.due("size(0)", x.size(0), 0);
        CHECK.due("size(1)", x.size(1), 3);
        CHECK.due("size(2)", x.size(2), 0);
        CHECK.due("size(3)", x.size(3), 0);
        x.ticks(5);
        CHECK.due("size(1) at 5", x.size(1), 1);
        x.ticks(2);
        CHECK.due("size(1) at 7", x.size(1), 0);
        x.keep();
        x.stick(3, 1);
        x.stick(4, 2);
        x.feed(1, 2, 3, 4, 5);
        CHECK.due("size(0)", x.size(0), 20);
        CHECK.due("size(2)", x.size(2), 1);
        CHECK.due("size(3)", x.size(3), 2);
        x.now(99);
        CHECK.due("size(4)", x.size(4), OpenLines.NONE);
        CHECK.due("size(-1)", x.size(-1), OpenLines.NONE);
        CHECK.due("trouble() is not size's", x.trouble(), 1);
    }

    private static void promise43Trouble() {
        OpenLines x = Texts.made(Buses.TWO);
        CHECK.due("trouble()", x.trouble(), 0);
        x.about(9);
        CHECK.due("1", x.trouble(), 1);
        CHECK.due("1 again", x.trouble(), 1);
        x.ticks(0);
        CHECK.due("2", x.trouble(), 2);
        x.fault();
        x.where();
        x.size(0);
        x.feed(0, 0, 0, 0, 0);
        Texts.never(x, 9);
        CHECK.due("2 behind calls without numbers", x.trouble(), 2);
        x.bus(20);
        CHECK.due("4", x.trouble(), 4);
        x.ask(0, 1);
        CHECK.due("0", x.trouble(), 0);
        x.ask(0, 1);
        CHECK.due("5", x.trouble(), 5);
        x.keep();
        CHECK.due("0 behind keep()", x.trouble(), 0);
    }
}
