/** Promises 26 to 34: the run as it is and as it will be. */
public final class RunTest {
    private static final Check CHECK = new Check("RunTest");
    private static final String ASKS = ";ask 1 a 3;ask 4 c 2;ask 4 a 9";

    private RunTest() {
    }

    public static void main(String[] args) {
        oneAfterTheOther();
        putOff();
        failing();
        faultyPass();
        rounds();
        promise28LongLog();
        promise29And30LongPast();
        promise31Waiting();
        promise32Longest();
        promise33Will();
        promise34Till();
        tillItsLastTick();
        newRun();
        whenAMasterAsks();
        refusals();
        CHECK.end();
    }

    private static void now(OpenLines x, int... want) {
        for (int what = 0; what < want.length; what++) {
            CHECK.told("now(" + what + ") at " + x.about(5), x, x.now(what), want[what]);
        }
    }

    private static void ledger(OpenLines x, int b, int... want) {
        for (int what = 0; what < want.length; what++) {
            CHECK.told("ledger(" + b + ", " + what + ") at " + x.about(5), x, x.ledger(b, what), want[what]);
        }
    }

    private static void log(OpenLines x, int i, int... want) {
        for (int what = 0; what < want.length; what++) {
            CHECK.told("log(" + i + ", " + what + ") at " + x.about(5), x, x.log(i, what), want[what]);
        }
    }

    private static void oneAfterTheOther() {
        OpenLines x = Texts.made(Buses.THREE + ASKS);
        now(x, -2, -2, -2, -2, 0, 0, 0, 0, 0, 0, 0);
        CHECK.told("ticks(1)", x, x.ticks(1), -2);
        now(x, -2, -2, -2, 11, 1, 1, 0, 0, 0, 0, 0);
        ledger(x, 0, 0, 0, 0, 0, -2, 0);
        CHECK.refused("no log yet", x, x.log(0, 0), 1);
        x.ticks(3);
        now(x, -2, -2, -2, 11, 1, 5, 0, 0, 0, 0, 0);
        ledger(x, 0, 0, 0, 1, 0, -2, 0);
        CHECK.told("ticks(6)", x, x.ticks(6), -2);
        CHECK.told("ticks(1)", x, x.ticks(1), 0);
        now(x, 0, 14, -2, 21, 4, 4, 0, 1, 0, 0, 0);
        ledger(x, 0, 1, 1, 1, 0, 10, 1);
        log(x, 0, 11, 1, 1, 1, 0, 0);
        CHECK.refused("one in the log", x, x.log(1, 0), 1);
        CHECK.told("ticks(2)", x, x.ticks(2), 0);
        CHECK.told("ticks(1)", x, x.ticks(1), -2);
        ledger(x, 0, 1, 3, 1, 0, 10, 1);
        int[] past = {-2, 0, 0, 0, -2, -2};
        for (int i = 0; i < past.length; i++) {
            CHECK.told("past(" + i + ")", x, x.past(i), past[i]);
        }
        CHECK.told("idle()", x, x.idle(), 11);
        CHECK.told("ticks(7)", x, x.ticks(7), 2);
        now(x, 2, 23, -2, -2, 0, 0, 0, 2, 0, 0, 0);
        ledger(x, 2, 1, 1, 0, 0, 17, 1);
        log(x, 0, 21, 4, 4, 4, 2, 0);
        log(x, 1, 11, 1, 1, 1, 0, 0);
        CHECK.told("ticks(2)", x, x.ticks(2), -2);
        now(x, -2, -2, -2, -2, 0, 0, 0, 2, 0, 0, 0);
    }

    /** One elected, put off by one of a greater rank, and elected again in a new round. */
    private static OpenLines withOnePutOff() {
        OpenLines x = Texts.made(Buses.THREE);
        x.ask(0, 50);
        x.ticks(11);
        x.ask(1, 4);
        x.ticks(1);
        now(x, 0, 61, -2, 22, 2, 2);
        x.ticks(10);
        now(x, 0, 61, 1, -2, 0, 2);
        x.ask(2, 2);
        x.ticks(1);
        now(x, 0, 61, 1, 33, 6, 6);
        x.ticks(10);
        return x;
    }

    private static void putOff() {
        OpenLines x = withOnePutOff();
        now(x, 0, 61, 2, -2, 0, 6, 0, 3, 0, 1, 1);
        ledger(x, 1, 0, 0, 0, 1, -2, 1);
        ledger(x, 2, 0, 0, 0, 0, -2, 1);
        log(x, 0, 33, 6, 4, 4, 2, 1);
        CHECK.told("ticks(28)", x, x.ticks(28), 2);
        now(x, 2, 63, -2, 71, 2, 2, 0, 3, 0, 1, 1);
        CHECK.told("ticks(10)", x, x.ticks(10), 1);
        now(x, 1, 75, -2, -2, 0, 0, 1, 4, 0, 1, 1);
        ledger(x, 1, 1, 1, 0, 1, 60, 2);
        CHECK.due("fresh in the new round", x.board(0, 4), 1);
        CHECK.due("who begins it is not", x.board(1, 4), 0);
        CHECK.due("fresh in the new round", x.board(2, 4), 1);
    }

    private static void failing() {
        OpenLines x = Texts.made(Buses.TWO);
        x.ask(0, 3);
        x.ticks(5);
        x.stick(5, 1);
        x.ticks(6);
        now(x, -2, -2, -2, 21, 1, 1, 0, 1, 1, 0, 0);
        log(x, 0, 11, 1, 0, 0, -2, 0);
        ledger(x, 0, 0, 0, 0, 0, -2, 0);
        x.ticks(9);
        x.stick(5, 0);
        CHECK.told("by lines as they are when it is through", x, x.ticks(1), 0);
        now(x, 0, 24, -2, -2, 0, 0, 0, 2, 1, 0, 0);
        failsWhileOneIsElect();
    }

    /** None is ELECT any more then, and that one isn't PUT OFF. */
    private static void failsWhileOneIsElect() {
        OpenLines x = withOnePutOff();
        x.keep();
        x.waits(0, 1);
        CHECK.due("rank handed on is too small", x.will(1, 3), -2);
        OpenLines y = Texts.made(Buses.THREE);
        y.ask(0, 50);
        y.ticks(11);
        y.ask(1, 4);
        y.ticks(11);
        y.ask(2, 2);
        y.ticks(5);
        y.stick(1, 1);
        y.ticks(6);
        log(y, 0, 33, 6, 0, 0, -2);
        now(y, 0, 61, -2, 43, 6, 6, 0, 3, 1);
        CHECK.due("no one was put off", y.now(10), 0);
        CHECK.due("nor was b", y.ledger(1, 3), 0);
    }

    /** A bystander four slots away sees nothing of a pass by a window of 3: an even number. */
    private static void faultyPass() {
        OpenLines x = Texts.made(Buses.THREE.replace("window 5", "window 3"));
        x.ask(0, 1);
        x.ticks(7);
        log(x, 0, 7, 1, 1, 1, 0, 2);
        now(x, 0, 8, -2, -2, 0, 0, 0, 1, 0, 2, 0);
        x.stick(5, 1);
        x.ask(1, 1);
        x.ticks(7);
        log(x, 0, 14, 2, 0, 0, -2, 1);
        CHECK.due("pass 2, which isn't made, isn't faulty", x.now(9), 3);
    }

    private static void rounds() {
        OpenLines x = Texts.made(Buses.TWO);
        x.ask(0, 1);
        x.ask(1, 1);
        CHECK.told("the greater code first", x, x.ticks(11), 1);
        x.ticks(1);
        x.ask(1, 1);
        CHECK.told("who is fresh comes first", x, x.ticks(9), 0);
        CHECK.due("none fresh", x.board(0, 4) + x.board(1, 4), 0);
        CHECK.due("no round yet", x.now(6), 0);
        CHECK.told("then the other", x, x.ticks(10), 1);
        CHECK.due("a round", x.now(6), 1);
        CHECK.due("a is fresh", x.board(0, 4), 1);
        CHECK.due("b is not", x.board(1, 4), 0);
    }

    private static void promise28LongLog() {
        OpenLines x = Texts.made("bus gate 1 filter 0 window 1;board a slot 0 code 1 rank 0");
        for (int i = 0; i < 20; i++) {
            x.ask(0, 1);
            x.ticks(4);
        }
        CHECK.due("arbitrations", x.now(7), 20);
        for (int i = 0; i < 16; i++) {
            CHECK.told("log(" + i + ", 0)", x, x.log(i, 0), 79 - 4 * i);
        }
        CHECK.refused("log(16, 0)", x, x.log(16, 0), 1);
        CHECK.refused("log(-1, 0)", x, x.log(-1, 0), 1);
        CHECK.refused("log(0, 6)", x, x.log(0, 6), 1);
        CHECK.refused("log(0, -1)", x, x.log(0, -1), 1);
    }

    private static void promise29And30LongPast() {
        OpenLines x = Texts.made(Buses.TWO);
        CHECK.told("no tick yet", x, x.past(0), -2);
        CHECK.told("none of no ticks", x, x.idle(), 0);
        x.ask(0, 20);
        x.ticks(31);
        CHECK.told("idle(), 31 ticks", x, x.idle(), 11);
        CHECK.told("past(1)", x, x.past(1), 0);
        CHECK.told("past(20)", x, x.past(20), 0);
        CHECK.told("past(21)", x, x.past(21), -2);
        CHECK.told("ahead of the first tick", x, x.past(40), -2);
        x.ticks(43);
        CHECK.told("past(63), tick 11", x, x.past(63), 0);
        CHECK.told("idle(), the latest 64", x, x.idle(), 44);
        x.ticks(1);
        CHECK.told("idle() forgets tick 11", x, x.idle(), 45);
        x.ticks(100);
        CHECK.told("idle() all", x, x.idle(), 64);
        CHECK.refused("past(64)", x, x.past(64), 2);
        CHECK.refused("past(-1)", x, x.past(-1), 2);
    }

    private static void promise31Waiting() {
        OpenLines x = Texts.made(Buses.THREE);
        x.waits(2, 0);
        x.waits(0, 1);
        CHECK.told("waiting(1)", x, x.waiting(1), 5);
        CHECK.told("waiting(0)", x, x.waiting(0), 4);
        CHECK.told("waiting(2)", x, x.waiting(2), 0);
        CHECK.due("rank by others, too", x.board(1, 3), 6);
        x.waits(0, -1);
        CHECK.told("waiting(1) then", x, x.waiting(1), 0);
        CHECK.due("its own rank again", x.board(1, 3), 2);
    }

    private static void promise32Longest() {
        OpenLines x = Texts.made("bus gate 1 filter 0 window 9;board a slot 7 code 1 rank 0;board b slot 2 code 2 rank 0"
                + ";board c slot 5 code 3 rank 0;ask 3 c 1;ask 3 b 1");
        CHECK.told("none asks", x, x.longest(), -2);
        x.ticks(3);
        CHECK.told("the first by slots", x, x.longest(), 1);
        x.ask(0, 1);
        x.ticks(1);
        CHECK.told("still", x, x.longest(), 1);
        x.ticks(17);
        CHECK.due("c is master", x.now(0), 2);
        CHECK.told("b asked ahead of a", x, x.longest(), 1);
    }

    private static void promise33Will() {
        OpenLines x = Texts.made(Buses.THREE + ASKS);
        String before = Buses.state(x);
        CHECK.told("will(10, 0)", x, x.will(10, 0), -2);
        CHECK.told("will(11, 0)", x, x.will(11, 0), 0);
        CHECK.told("will(11, 1)", x, x.will(11, 1), 14);
        CHECK.told("will(11, 3)", x, x.will(11, 3), 21);
        CHECK.told("will(4, 5)", x, x.will(4, 5), 5);
        CHECK.told("will(999, 7)", x, x.will(999, 7), 2);
        CHECK.refused("will(0, 0)", x, x.will(0, 0), 2);
        CHECK.refused("will(1000, 0)", x, x.will(1000, 0), 2);
        CHECK.refused("will(0, 11)", x, x.will(0, 11), 1);
        CHECK.refused("will(1, -1)", x, x.will(1, -1), 1);
        CHECK.due("nothing has changed", Buses.state(x).equals(before), true);
        OpenLines y = withOnePutOff();
        for (int what = 0; what < 11; what++) {
            int[] want = {1, 75, -2, -2, 0, 0, 1, 4, 0, 1, 1};
            CHECK.told("will(38, " + what + ")", y, y.will(38, what), want[what]);
        }
    }

    private static void promise34Till() {
        OpenLines x = withOnePutOff();
        String before = Buses.state(x);
        CHECK.told("the elect", x, x.till(2), 28);
        CHECK.told("behind it", x, x.till(1), 38);
        CHECK.told("the master, not now and never again", x, x.till(0), -2);
        CHECK.refused("till(3)", x, x.till(3), 1);
        CHECK.refused("till(-1)", x, x.till(-1), 1);
        CHECK.due("nothing has changed", Buses.state(x).equals(before), true);
        OpenLines y = Texts.made(Buses.TWO + ";ask 1 a 5;ask 20 a 5");
        CHECK.told("by an ask to come", y, y.till(0), 11);
        y.ticks(12);
        CHECK.told("the master, next", y, y.till(0), 18);
        OpenLines z = Texts.made("bus gate 1 filter 0 window 200;board a slot 0 code 1 rank 0;ask 999 a 1");
        CHECK.told("far away", z, z.till(0), 1399);
    }

    /** Three in turn, each behind an arbitration of 400 ticks. */
    private static void tillItsLastTick() {
        String text = "bus gate 1 filter 0 window 200;board a slot 0 code 1 rank 0;board b slot 1 code 2 rank 1"
                + ";board c slot 2 code 4 rank 2;ask TT a 1;ask TT b 1;ask TT c 1";
        OpenLines x = Texts.made(text.replace("TT", "800"));
        CHECK.told("the first", x, x.till(2), 1200);
        CHECK.told("the last", x, x.till(0), 2000);
        OpenLines y = Texts.made(text.replace("TT", "801"));
        CHECK.told("too late", y, y.till(0), -2);
        y.ticks(1);
        CHECK.told("just in time", y, y.till(0), 2000);
    }

    /** A new bus has nothing of the counts of the one before. */
    private static void newRun() {
        OpenLines x = withOnePutOff();
        x.ticks(40);
        Texts.bus(x, Buses.THREE);
        now(x, -2, -2, -2, -2, 0, 0, 0, 0, 0, 0, 0);
        for (int b = 0; b < 3; b++) {
            ledger(x, b, 0, 0, 0, 0, -2, 0);
            CHECK.due("fresh", x.board(b, 4), 1);
        }
        CHECK.refused("no log", x, x.log(0, 0), 1);
        CHECK.told("no past", x, x.past(0), -2);
        CHECK.told("not idle", x, x.idle(), 0);
    }

    /** Its time is through behind the asks of that tick, so an ask told for it isn't heard. */
    private static void whenAMasterAsks() {
        OpenLines x = Texts.made(Buses.TWO + ";ask 1 a 5;ask 15 a 5;ask 16 a 5;ask 17 a 5");
        x.ticks(15);
        CHECK.due("refused as master", x.ledger(0, 2), 1);
        x.ticks(1);
        CHECK.due("no master any more", x.now(0), -2);
        CHECK.due("refused in the tick in which its time is through", x.ledger(0, 2), 2);
        CHECK.due("doesn't ask", x.now(5), 0);
        x.ticks(1);
        CHECK.due("asks", x.now(5), 1);
    }

    private static void refusals() {
        OpenLines x = Texts.made(Buses.TWO);
        CHECK.refused("now(11)", x, x.now(11), 1);
        CHECK.refused("now(-1)", x, x.now(-1), 1);
        CHECK.refused("ledger(2, 0)", x, x.ledger(2, 0), 1);
        CHECK.refused("ledger(0, 6)", x, x.ledger(0, 6), 1);
        CHECK.refused("ledger(0, -1)", x, x.ledger(0, -1), 1);
        CHECK.refused("waiting(2)", x, x.waiting(2), 1);
        OpenLines y = new OpenLines();
        CHECK.refused("now(0)", y, y.now(0), 1);
        CHECK.refused("ledger(0, 0)", y, y.ledger(0, 0), 1);
        CHECK.refused("log(0, 0)", y, y.log(0, 0), 1);
        CHECK.refused("past(99)", y, y.past(99), 1);
        CHECK.refused("idle()", y, y.idle(), 1);
        CHECK.refused("waiting(0)", y, y.waiting(0), 1);
        CHECK.refused("longest()", y, y.longest(), 1);
        CHECK.refused("will(0, 0)", y, y.will(0, 0), 1);
        CHECK.refused("till(0)", y, y.till(0), 1);
    }
}
