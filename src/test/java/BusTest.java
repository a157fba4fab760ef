/** Promises 1 to 9: the tape, the text, the boards and their words. */
public final class BusTest {
    private static final Check CHECK = new Check("BusTest");
    private static final String HEAD = "bus gate 1 filter 0 window 20";
    private static final String ONE = HEAD + ";board a slot 0 code 5 rank 2";

    private BusTest() {
    }

    public static void main(String[] args) {
        promise1NewObject();
        promise2Feed();
        promise3Bus();
        promise3BusStaysBehindFault();
        promise4And5Faults();
        promise4And5Calls();
        promise6About();
        promise7Board();
        promise8Named();
        promise9Word();
        CHECK.end();
    }

    private static void promise1NewObject() {
        OpenLines x = new OpenLines();
        CHECK.due("trouble()", x.trouble(), 0);
        CHECK.due("fault()", x.fault(), 0);
        CHECK.due("where()", x.where(), OpenLines.NONE);
        for (int what = 0; what < 4; what++) {
            CHECK.due("size(" + what + ")", x.size(what), 0);
        }
        CHECK.refused("about(5)", x, x.about(5), 1);
        CHECK.refused("now(0)", x, x.now(0), 1);
        CHECK.refused("winners(1, 1, 0)", x, x.winners(1, 1, 0), 1);
    }

    private static void promise2Feed() {
        OpenLines x = new OpenLines();
        x.bus(1);
        for (int i = 1; i <= 35; i++) {
            CHECK.due("feed " + i, x.feed(0, -1, 1, Integer.MIN_VALUE, Integer.MAX_VALUE), 20 * i);
        }
        CHECK.due("feed beyond 700", x.feed(0, 0, 0, 0, 0), OpenLines.NONE);
        CHECK.due("size(0)", x.size(0), 700);
        CHECK.due("trouble() is not feed's", x.trouble(), 2);
        OpenLines y = new OpenLines();
        y.feed(0x62757320, 0x67617465, 0x34202020, 0x20202020, 0x20202020);
        CHECK.refused("bus(9)", y, y.bus(9), 4);
        CHECK.due("place of the byte behind bus gate", y.where(), 8);
        CHECK.due("fault()", y.fault(), 4);
    }

    private static void promise3Bus() {
        OpenLines x = new OpenLines();
        CHECK.refused("bus(1) of an empty tape", x, x.bus(1), 2);
        Texts.feed(x, ONE);
        CHECK.refused("bus(-1)", x, x.bus(-1), 2);
        CHECK.refused("bus(61) of 60 bytes", x, x.bus(61), 2);
        CHECK.refused("bus(MIN)", x, x.bus(Integer.MIN_VALUE), 2);
        CHECK.due("the tape stays", x.size(0), 60);
        CHECK.told("bus(58)", x, x.bus(58), 1);
        CHECK.due("the tape is empty, its rest, too", x.size(0), 0);
        x.ask(0, 3);
        x.ticks(7);
        x.stick(2, 1);
        x.keep();
        CHECK.told("another bus", x, Texts.bus(x, Buses.THREE), 3);
        CHECK.due("TIME", x.about(5), 0);
        CHECK.due("lines that are not whole", x.size(3), 0);
        CHECK.due("nothing kept", x.size(2), 0);
        CHECK.due("back()", x.back(), false);
        CHECK.due("nobody asks", x.now(5), 0);
        CHECK.due("no arbitration", x.now(3), -2);
        CHECK.due("of nobody", x.now(4), 0);
        String six = HEAD;
        for (int b = 0; b < 6; b++) {
            six += ";board " + (char) ('a' + b) + " slot " + (9 - b) + " code " + (31 - b) + " rank " + b;
        }
        CHECK.told("six boards", x, Texts.bus(x, six), 6);
        CHECK.told("no blanks", x, Texts.bus(x, "bus gate1filter0window20;board a slot0code1rank7;ask999a99"), 1);
        CHECK.told("more blanks", x, Texts.bus(x, "  bus  gate 003 filter 020 window 200 ; board bussed slot 9 code 31 rank 0  "), 1);
        CHECK.due("GATE", x.about(0), 3);
        CHECK.due("FILTER", x.about(1), 20);
        CHECK.due("WINDOW", x.about(2), 200);
    }

    private static void promise3BusStaysBehindFault() {
        OpenLines x = Texts.made(Buses.TWO);
        x.ask(0, 4);
        x.ticks(12);
        x.stick(0, 2);
        x.keep();
        String before = Buses.state(x);
        CHECK.refused("a bus of rank 8", x, Texts.bus(x, HEAD + ";board q slot 1 code 1 rank 8"), 4);
        CHECK.due("the tape is empty", x.size(0), 0);
        CHECK.due("nothing else has changed", Buses.state(x).equals(before), true);
    }

    private static void fault(String text, int number, int place) {
        OpenLines x = new OpenLines();
        int got = Texts.bus(x, text);
        if (number == 0) {
            CHECK.due("is a bus: " + text, got > 0 && x.trouble() == 0 && x.fault() == 0 && x.where() == -1, true);
            return;
        }
        CHECK.due("bus of " + text, got, OpenLines.NONE);
        CHECK.due("trouble() of " + text, x.trouble(), 4);
        CHECK.due("fault() of " + text, x.fault(), number);
        CHECK.due("where() of " + text, x.where(), place);
    }

    private static void promise4And5Faults() {
        form();
        fault(HEAD + ";ask 1 a 5", 2, 36);
        fault(ONE + ";ask 5 b 1", 2, 65);
        fault(ONE + ";ask 5 slot 1", 2, 65);
        fault(ONE + ";board a", 3, 65);
        fault(ONE + ";board b slot 0", 3, 72);
        fault(ONE + ";board b slot 1 code 05", 3, 79);
        fault(ONE + ";bus!", 3, 59);
        fault("bus gate 0", 4, 9);
        fault("bus gate 4", 4, 9);
        fault("bus gate 1 filter 21", 4, 18);
        fault("bus gate 1 filter 20 window 201", 4, 28);
        fault("bus gate 1 filter 0 window 0", 4, 27);
        fault(ONE + ";board b slot 10", 4, 72);
        fault(ONE + ";board b slot 1 code 0", 4, 79);
        fault(ONE + ";board b slot 1 code 32", 4, 79);
        fault(ONE + ";board b slot 1 code 6 rank 8", 4, 86);
        fault(ONE + ";ask 0 a 1", 4, 63);
        fault(ONE + ";ask 1 a 0", 4, 67);
        fault(ONE + ";ask 1 a 100", 4, 67);
        fault(ONE + ";ask 7 a 1;ask 6", 4, 73);
        fault(ONE + ";ask 7 a 1;ask 7 a 99;ask 999 a 1", 0, 0);
        fault("ask 1 a 1", 6, 0);
        fault("  board", 6, 2);
        fault(HEAD, 6, 29);
        fault(HEAD + " ", 6, 30);
        many();
    }

    private static void form() {
        fault("", 1, 0);
        fault("   ", 1, 3);
        fault(";", 1, 0);
        fault("Bus", 1, 0);
        fault("slot", 1, 0);
        fault("busgate 1", 1, 0);
        fault("bus gate", 1, 8);
        fault("bus gate x", 1, 9);
        fault("bus gate 0001", 1, 9);
        fault("bus\tgate 1", 1, 3);
        fault(HEAD + ";", 1, 30);
        fault(HEAD + ";;", 1, 30);
        fault(HEAD + " board", 1, 30);
        fault(HEAD + ";board ask", 1, 36);
        fault(HEAD + ";board board", 1, 36);
        fault(HEAD + ";board 7", 1, 36);
        fault(HEAD + ";board gate slot 0 code 1 rank 0", 0, 0);
        fault(ONE + ";board abcdefg", 1, 65);
        fault(ONE + ";board abcdef", 1, 71);
        fault(ONE + ";ask 1000 a 1", 1, 63);
        fault(ONE + ";ask 1 bus 1", 1, 65);
        fault(ONE + ";ask 1 a", 1, 66);
        fault(ONE + ";ask 1 a 7 8", 1, 69);
        fault(ONE + "!", 1, 58);
        fault(ONE + (char) 0, 1, 58);
        fault(ONE + (char) 255, 1, 58);
    }

    private static void many() {
        String six = HEAD;
        for (int b = 0; b < 6; b++) {
            six += ";board " + (char) ('a' + b) + " slot " + b + " code " + (1 + b) + " rank 0";
        }
        fault(six, 0, 0);
        fault(six + ";board", 5, six.length() + 1);
        String asks = ONE;
        for (int i = 0; i < 12; i++) {
            asks += ";ask 5 a 7";
        }
        fault(asks, 0, 0);
        fault(asks + ";ask", 5, asks.length() + 1);
        fault(asks + ";board b slot 1 code 1 rank 1", 0, 0);
    }

    private static void promise4And5Calls() {
        OpenLines x = new OpenLines();
        Texts.bus(x, "bus gate 9");
        CHECK.due("where()", x.where(), 9);
        CHECK.due("fault()", x.fault(), 4);
        CHECK.due("where() again", x.where(), 9);
        x.size(9);
        x.feed(0, 0, 0, 0, 0);
        CHECK.due("where() behind calls that are not refused by a number", x.where(), 9);
        x.now(0);
        CHECK.due("where() behind a call refused by 1", x.where(), OpenLines.NONE);
        CHECK.due("fault() stays", x.fault(), 4);
        x.bus(99);
        CHECK.due("fault() stays behind a bus() refused by 2", x.fault(), 4);
        CHECK.due("where() behind it", x.where(), OpenLines.NONE);
        x.bus(0);
        CHECK.due("fault() of the empty text", x.fault(), 1);
        CHECK.due("where() of it", x.where(), 0);
        Texts.bus(x, ONE);
        CHECK.due("fault() of a bus", x.fault(), 0);
        CHECK.due("where() of it", x.where(), OpenLines.NONE);
    }

    private static void promise6About() {
        OpenLines x = Texts.made(Buses.LATE + ";ask 7 a 2;ask 9 b 4;ask 9 b 5");
        int[] want = {2, 1, 12, 2, 3, 0};
        for (int what = 0; what < want.length; what++) {
            CHECK.told("about(" + what + ")", x, x.about(what), want[what]);
        }
        x.ticks(8);
        CHECK.told("about(5) later", x, x.about(5), 8);
        CHECK.told("about(4) later", x, x.about(4), 3);
        CHECK.refused("about(-1)", x, x.about(-1), 1);
        CHECK.refused("about(6)", x, x.about(6), 1);
    }

    private static void promise7Board() {
        OpenLines x = Texts.made(Buses.THREE);
        x.waits(2, 0);
        x.ask(0, 17);
        int[][] want = {{0, 5, 2, 6, 1, 17, -2}, {1, 7, 2, 2, 1, 0, -2}, {4, 1, 6, 6, 1, 0, 0}};
        for (int b = 0; b < 3; b++) {
            for (int what = 0; what < 7; what++) {
                CHECK.told("board(" + b + ", " + what + ")", x, x.board(b, what), want[b][what]);
            }
        }
        x.ticks(11);
        CHECK.told("not fresh when elected", x, x.board(0, 4), 0);
        CHECK.told("asks no more as master", x, x.board(0, 5), 0);
        CHECK.refused("board(3, 0)", x, x.board(3, 0), 1);
        CHECK.refused("board(-1, 0)", x, x.board(-1, 0), 1);
        CHECK.refused("board(0, 7)", x, x.board(0, 7), 1);
        CHECK.refused("board(0, -1)", x, x.board(0, -1), 1);
    }

    private static void promise8Named() {
        OpenLines x = Texts.made(Buses.THREE);
        CHECK.told("named(5)", x, x.named(5), 0);
        CHECK.told("named(7)", x, x.named(7), 1);
        CHECK.told("named(1)", x, x.named(1), 2);
        CHECK.refused("named(2)", x, x.named(2), 1);
        CHECK.refused("named(0)", x, x.named(0), 1);
        CHECK.refused("named(-1)", x, x.named(-1), 1);
        Texts.bus(x, Buses.LATE);
        CHECK.refused("a code of the bus before", x, x.named(7), 1);
    }

    private static void promise9Word() {
        OpenLines x = Texts.made(Buses.THREE);
        int[][] want = {{0b010101, 0b001011}, {0b010101, 0b001110}, {0b110100, 0b000010}};
        for (int b = 0; b < 3; b++) {
            CHECK.told("word(" + b + ", 1)", x, x.word(b, 1), want[b][0]);
            CHECK.told("word(" + b + ", 2)", x, x.word(b, 2), want[b][1]);
        }
        x.ask(1, 2);
        x.ticks(11);
        CHECK.told("word of one that is not fresh", x, x.word(1, 1), 0b010000);
        x.waits(2, 1);
        CHECK.told("word of one with a rank handed on", x, x.word(1, 1), 0b110001);
        CHECK.refused("word(0, 0)", x, x.word(0, 0), 2);
        CHECK.refused("word(0, 3)", x, x.word(0, 3), 2);
        CHECK.refused("word(3, 3)", x, x.word(3, 3), 1);
        CHECK.refused("word(-1, 1)", x, x.word(-1, 1), 1);
    }
}
