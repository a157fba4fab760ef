/** Boundary cases of the text of a BUS (Terms, I), as promises 3 to 5 tell them. */
public final class FaultEdgeTest {
    private static final Check CHECK = new Check("FaultEdgeTest");
    private static final String HEAD = "bus gate 1 filter 0 window 20";
    private static final String ONE = HEAD + ";board a slot 0 code 5 rank 2";

    private FaultEdgeTest() {
    }

    public static void main(String[] args) throws Exception {
        Edges.run(FaultEdgeTest.class, CHECK);
    }

    /** The text has this fault at the place that is marked by ^. */
    private static void fault(int number, String marked) {
        int place = marked.indexOf('^');
        String text = marked.substring(0, place) + marked.substring(place + 1);
        OpenLines x = new OpenLines();
        CHECK.refused("bus of " + marked, x, Texts.bus(x, text), 4);
        CHECK.due("fault() of " + marked, x.fault(), number);
        CHECK.due("where() of " + marked, x.where(), place);
    }

    private static OpenLines fine(String text) {
        OpenLines x = new OpenLines();
        CHECK.due("is a BUS: " + text, Texts.bus(x, text) > 0, true);
        CHECK.due("fault() of " + text, x.fault(), 0);
        CHECK.due("where() of " + text, x.where(), OpenLines.NONE);
        return x;
    }

    // ---- tokens

    @Edge(promise = 3, says = "blanks, 32, part TOKENS and mean nothing else")
    static void promise3BlanksMeanNothing() {
        fine("   " + ONE);
        fine(ONE + "   ");
        OpenLines x = fine("bus   gate 1 filter  0 window 20  ;   board a slot 0 code 5 rank 2   ;  ask  7  a  9 ");
        CHECK.told("ask told", x, x.about(4), 1);
        OpenLines y = fine("bus gate1filter2window3;board a slot4code5rank6;ask7a8");
        CHECK.told("RANK", y, y.board(0, 2), 6);
    }

    @Edge(promise = 3, says = "blanks, 32, part TOKENS and mean nothing else")
    static void promise3BlanksPartWords() {
        fault(1, HEAD + ";^bo ard a slot 0 code 5 rank 2");
        fault(1, "bus ^ga te 1 filter 0 window 20");
        fault(1, HEAD + ";board a ^b slot 0 code 5 rank 2");
        fault(1, "^busgate 1 filter 0 window 20");
        fault(1, HEAD + ";board aslot ^0 code 5 rank 2");
    }

    @Edge(promise = 3, says = "blanks, 32, part TOKENS and mean nothing else")
    static void promise3BlanksPartWholes() {
        fault(1, "bus gate 1 ^2 filter 0 window 20");
        fault(1, HEAD + " ^0;board a slot 0 code 5 rank 2");
        fault(1, ONE + ";ask 1 ^1 a 1");
    }

    @Edge(promise = 3, says = "blanks, 32, part TOKENS and mean nothing else")
    static void promise3NoOtherByteIsABlank() {
        for (int sign = 0; sign < 256; sign++) {
            if (sign != ' ' && sign != ';') {
                fault(1, ONE + " ^" + (char) sign);
            }
        }
        for (int sign : new int[] {0, 9, 10, 11, 12, 13, 31, 33, 160}) {
            fault(1, "bus^" + (char) sign + "gate 1 filter 0 window 20");
        }
    }

    @Edge(promise = 3, says = "WORDS of 1 to 6 small letters that stand together")
    static void promise3WordsOf1And6Letters() {
        OpenLines x = fine(HEAD + ";board z slot 0 code 5 rank 2;board zzzzzz slot 1 code 6 rank 2;ask 1 zzzzzz 2;ask 1 z 3");
        x.ticks(1);
        CHECK.told("the WORD of 6 letters", x, x.board(1, 5), 2);
        CHECK.told("the WORD of 1 letter", x, x.board(0, 5), 3);
    }

    @Edge(promise = 3, says = "WORDS of 1 to 6 small letters that stand together")
    static void promise3WordsOf7Letters() {
        fault(1, HEAD + ";board ^abcdefg slot 0 code 5 rank 2");
        fault(1, HEAD + ";board ^abcdefghijklmnopqrstuvwxyz slot 0 code 5 rank 2");
        fault(1, "bus gate 1 ^filterr 0 window 20");
        fault(1, ONE + ";ask 1 ^aaaaaaa 1");
    }

    @Edge(promise = 3, says = "WORDS of 1 to 6 small letters that stand together")
    static void promise3AllSmallLettersAndNoOthers() {
        for (int sign = 0; sign < 256; sign++) {
            String name = "" + (char) sign;
            if (sign >= 'a' && sign <= 'z') {
                fine(HEAD + ";board " + name + " slot 0 code 5 rank 2");
                fine(HEAD + ";board b" + name + " slot 0 code 5 rank 2");
            } else if (sign != ' ') {
                fault(1, HEAD + ";board ^" + name + " slot 0 code 5 rank 2");
                fault(1, HEAD + ";board b^" + name + " slot 0 code 5 rank 2");
            }
        }
        fault(1, "^BUS gate 1 filter 0 window 20");
    }

    @Edge(promise = 3, says = "WORDS of 1 to 6 small letters that stand together")
    static void promise3EveryLetterCounts() {
        OpenLines x = fine(HEAD + ";board abcdef slot 0 code 1 rank 0;board abcdeg slot 1 code 2 rank 0;board bbcdef slot 2 code 3 rank 0"
                + ";board abcde slot 3 code 4 rank 0;board a slot 4 code 5 rank 0;board aa slot 5 code 6 rank 0;ask 1 aa 9");
        x.ticks(1);
        CHECK.told("aa asks", x, x.board(5, 5), 9);
        CHECK.told("nobody else", x, x.now(5), 32);
    }

    @Edge(promise = 3, says = "WORDS of 1 to 6 small letters that stand together")
    static void promise3NoLetterIsNothing() {
        for (char first = 'a'; first <= 'z'; first++) {
            OpenLines x = fine(HEAD + ";board " + first + "o slot 0 code 1 rank 0;board o slot 1 code 2 rank 0;board o" + first
                    + (first == 'o' ? "o" : "") + " slot 2 code 3 rank 0;ask 1 o 9");
            x.ticks(1);
            CHECK.told("o asks", x, x.now(5), 2);
        }
        fault(1, "^us gate 1 filter 0 window 20");
        fault(1, "^bbus gate 1 filter 0 window 20");
        fault(1, HEAD + ";^oard a slot 0 code 5 rank 2");
        fault(1, ONE + ";^sk 1 a 1");
    }

    @Edge(promise = 3, says = "WHOLES of 1 to 3 digits that do")
    static void promise3WholesOf1To3Digits() {
        OpenLines x = fine("bus gate 003 filter 07 window 8;board a slot 009 code 03 rank 000;ask 999 a 099");
        int[] want = {3, 7, 8};
        for (int what = 0; what < 3; what++) {
            CHECK.told("about(" + what + ")", x, x.about(what), want[what]);
        }
        CHECK.told("SLOT", x, x.board(0, 0), 9);
        CHECK.told("CODE", x, x.board(0, 1), 3);
        CHECK.told("RANK", x, x.board(0, 2), 0);
    }

    @Edge(promise = 3, says = "WHOLES of 1 to 3 digits that do")
    static void promise3WholesOf4Digits() {
        fault(1, "bus gate ^0001 filter 0 window 20");
        fault(1, "bus gate 1 filter 0 window ^2000");
        fault(1, ONE + ";ask ^1000 a 1");
        fault(1, ONE + ";ask 1 a ^0001");
        fault(1, ONE + ";ask 1 a ^12345678901234567890");
        fault(1, ONE + ";ask ^4294967297 a 1");
    }

    @Edge(promise = 3, says = "WHOLES of 1 to 3 digits that do")
    static void promise3AllDigitsAndNoOthers() {
        for (int sign = 0; sign < 256; sign++) {
            if (sign >= '0' && sign <= '9') {
                OpenLines x = fine(HEAD.replace("20", "1" + (char) sign) + ";board a slot 0 code 5 rank 2");
                CHECK.told("WINDOW", x, x.about(2), 10 + sign - '0');
            } else if (sign != ' ') {
                fault(1, "bus gate ^" + (char) sign + " filter 0 window 20");
            }
        }
    }

    @Edge(promise = 3, says = "single ones of ;")
    static void promise3MarksStandAlone() {
        fault(1, HEAD + ";^;board a slot 0 code 5 rank 2");
        fault(1, HEAD + "; ^;board a slot 0 code 5 rank 2");
        fault(1, "^;" + ONE);
        fault(1, ONE + ";^;");
    }

    // ---- lines

    @Edge(promise = 3, says = "LINE {; LINE}")
    static void promise3MarksPartLines() {
        fault(1, HEAD + " ^board a slot 0 code 5 rank 2");
        fault(1, ONE + " ^ask 1 a 1");
        fault(1, ONE + " ^board b slot 1 code 6 rank 2");
        fault(1, ONE + ";ask 1 a 1 ^ask 2 a 1");
    }

    @Edge(promise = 3, says = "LINE {; LINE}")
    static void promise3NoLineBehindTheLastMark() {
        fault(1, ONE + ";^");
        fault(1, ONE + ";  ^");
        fault(1, ONE + ";ask 1 a 1;^");
        fine(ONE + ";ask 1 a 1");
    }

    @Edge(promise = 3, says = "LINE {; LINE}")
    static void promise3LinesOfNoSort() {
        fault(1, ONE + ";^slot");
        fault(1, ONE + ";^a");
        fault(1, ONE + ";^7");
        fault(1, ONE + ";^!");
        fault(1, ONE + ";^boards b slot 1 code 6 rank 2");
        fault(1, ONE + ";^as 1 a 1");
    }

    @Edge(promise = 3, says = "bus gate WHOLE filter WHOLE window WHOLE")
    static void promise3EachTokenOfTheBus() {
        fault(1, "bus ^1");
        fault(1, "bus ^filter 0 window 20");
        fault(1, "bus gate ^filter 0 window 20");
        fault(1, "bus gate 1 ^window 20");
        fault(1, "bus gate 1 filter ^window 20");
        fault(1, "bus gate 1 filter 0 ^;");
        fault(1, "bus gate 1 filter 0 window ^;");
        fault(1, HEAD + " ^a");
        fault(1, HEAD + " ^1");
    }

    @Edge(promise = 3, says = "board NAME slot WHOLE code WHOLE rank WHOLE")
    static void promise3EachTokenOfABoard() {
        fault(1, HEAD + ";board ^7");
        fault(1, HEAD + ";board ^;");
        fault(1, HEAD + ";board a ^code 5 rank 2");
        fault(1, HEAD + ";board a ^0 code 5 rank 2");
        fault(1, HEAD + ";board a slot ^code 5 rank 2");
        fault(1, HEAD + ";board a slot 0 ^rank 2");
        fault(1, HEAD + ";board a slot 0 code ^rank 2");
        fault(1, HEAD + ";board a slot 0 code 5 ^;");
        fault(1, HEAD + ";board a slot 0 code 5 rank ^;");
        fault(1, ONE + " ^3");
    }

    @Edge(promise = 3, says = "ask WHOLE BOARD WHOLE")
    static void promise3EachTokenOfAnAsk() {
        fault(1, ONE + ";ask ^a 1");
        fault(1, ONE + ";ask ^;");
        fault(1, ONE + ";ask 1 ^1");
        fault(1, ONE + ";ask 1 ^;");
        fault(1, ONE + ";ask 1 a ^a");
        fault(1, ONE + ";ask 1 a ^;");
        fault(1, ONE + ";ask 1 a 1 ^1");
    }

    @Edge(promise = 5, says = "TOKEN with which no BUS goes on (the end: its place)")
    static void promise5TheEndsPlace() {
        fault(1, "^");
        fault(1, "   ^");
        fault(1, "bus^");
        fault(1, "bus gate^");
        fault(1, "bus gate 1^");
        fault(1, "bus gate 1 filter 0 window  ^");
        fault(1, HEAD + ";board^");
        fault(1, HEAD + ";board a^");
        fault(1, HEAD + ";board a slot 0 code 5 rank^");
        fault(1, ONE + ";ask^");
        fault(1, ONE + ";ask 1^");
        fault(1, ONE + ";ask 1 a ^");
    }

    // ---- bounds

    @Edge(promise = 3, says = "GATE, 1 .. 3")
    static void promise3BoundsOfGate() {
        fault(4, "bus gate ^0 filter 0 window 20");
        for (int gate = 1; gate <= 3; gate++) {
            OpenLines x = fine(Buses.text(gate, 0, 20, 0, 5, 2));
            CHECK.told("GATE", x, x.about(0), gate);
        }
        fault(4, "bus gate ^4 filter 0 window 20");
        fault(4, "bus gate ^999 filter 0 window 20");
    }

    @Edge(promise = 3, says = "FILTER, 0 .. 20")
    static void promise3BoundsOfFilter() {
        fault(1, "bus gate 1 filter ^-1 window 20");
        for (int filter : new int[] {0, 1, 19, 20}) {
            OpenLines x = fine(Buses.text(1, filter, 20, 0, 5, 2));
            CHECK.told("FILTER", x, x.about(1), filter);
        }
        fault(4, "bus gate 1 filter ^21 window 20");
        fault(4, "bus gate 1 filter ^999 window 20");
    }

    @Edge(promise = 3, says = "WINDOW, 1 .. 200")
    static void promise3BoundsOfWindow() {
        fault(4, "bus gate 1 filter 0 window ^0");
        for (int window : new int[] {1, 2, 199, 200}) {
            OpenLines x = fine(Buses.text(1, 0, window, 0, 5, 2));
            CHECK.told("WINDOW", x, x.about(2), window);
        }
        fault(4, "bus gate 1 filter 0 window ^201");
        fault(4, "bus gate 1 filter 0 window ^999");
    }

    @Edge(promise = 3, says = "its SLOT 0 .. 9")
    static void promise3BoundsOfSlot() {
        for (int slot = 0; slot <= 9; slot++) {
            OpenLines x = fine(Buses.text(1, 0, 20, slot, 5, 2));
            CHECK.told("SLOT", x, x.board(0, 0), slot);
        }
        fault(4, HEAD + ";board a slot ^10 code 5 rank 2");
        fault(4, HEAD + ";board a slot ^999 code 5 rank 2");
        fault(1, HEAD + ";board a slot ^-1 code 5 rank 2");
    }

    @Edge(promise = 3, says = "CODE 1 .. 31")
    static void promise3BoundsOfCode() {
        fault(4, HEAD + ";board a slot 0 code ^0 rank 2");
        for (int code = 1; code <= 31; code++) {
            OpenLines x = fine(Buses.text(1, 0, 20, 0, code, 2));
            CHECK.told("CODE", x, x.board(0, 1), code);
        }
        fault(4, HEAD + ";board a slot 0 code ^32 rank 2");
        fault(4, HEAD + ";board a slot 0 code ^999 rank 2");
    }

    @Edge(promise = 3, says = "RANK 0 .. 7")
    static void promise3BoundsOfRank() {
        for (int rank = 0; rank <= 7; rank++) {
            OpenLines x = fine(Buses.text(1, 0, 20, 0, 5, rank));
            CHECK.told("RANK", x, x.board(0, 2), rank);
        }
        fault(4, HEAD + ";board a slot 0 code 5 rank ^8");
        fault(4, HEAD + ";board a slot 0 code 5 rank ^999");
    }

    @Edge(promise = 3, says = "a TIME, 1 .. 999")
    static void promise3BoundsOfTime() {
        fault(4, ONE + ";ask ^0 a 1");
        fault(4, ONE + ";ask ^000 a 1");
        OpenLines x = fine(ONE + ";ask 1 a 5;ask 999 a 6");
        x.ticks(1);
        CHECK.told("at 1", x, x.board(0, 5), 5);
        CHECK.due("one to come", x.size(1), 1);
        x.ticks(997);
        CHECK.told("at 998", x, x.board(0, 5), 0);
        x.ticks(1);
        CHECK.told("at 999", x, x.board(0, 5), 6);
    }

    @Edge(promise = 3, says = "no less than that of the ask ahead")
    static void promise3TimesInTheirOrder() {
        fault(4, ONE + ";ask 7 a 1;ask ^6 a 1");
        fault(4, ONE + ";ask 1 a 1;ask ^0 a 1");
        fault(4, ONE + ";ask 999 a 1;ask ^998 a 1");
        fault(4, ONE + ";ask 5 a 1;ask 7 a 1;board b slot 1 code 6 rank 2;ask ^6 b 1");
        fine(ONE + ";ask 7 a 1;ask 7 a 1;ask 007 a 1;ask 8 a 1;ask 999 a 1;ask 999 a 1");
    }

    @Edge(promise = 3, says = "for how many TICKS, 1 .. 99")
    static void promise3BoundsOfTicks() {
        fault(4, ONE + ";ask 1 a ^0");
        for (int ticks : new int[] {1, 2, 98, 99}) {
            OpenLines x = fine(ONE + ";ask 1 a " + ticks);
            x.ticks(1);
            CHECK.told("asks for", x, x.board(0, 5), ticks);
        }
        fault(4, ONE + ";ask 1 a ^100");
        fault(4, ONE + ";ask 1 a ^999");
    }

    // ---- how many

    private static String boards(int count) {
        int[] told = new int[3 * count];
        for (int b = 0; b < count; b++) {
            told[3 * b] = 9 - b;
            told[3 * b + 1] = b + 1;
            told[3 * b + 2] = b;
        }
        return Buses.text(1, 0, 20, told);
    }

    private static String asks(int count) {
        return ONE + ";ask 3 a 4".repeat(count);
    }

    @Edge(promise = 3, says = "numbered from 0; up to 6")
    static void promise3UpTo6Boards() {
        OpenLines x = fine(boards(6));
        CHECK.told("BOARDS", x, x.about(3), 6);
        for (int b = 0; b < 6; b++) {
            CHECK.told("SLOT of " + b, x, x.board(b, 0), 9 - b);
        }
    }

    @Edge(promise = 3, says = "for how many TICKS, 1 .. 99; up to 12")
    static void promise3UpTo12Asks() {
        OpenLines x = fine(asks(12));
        CHECK.told("asks told", x, x.about(4), 12);
        x.ticks(3);
        CHECK.told("all but one were REFUSED", x, x.ledger(0, 2), 11);
        fine(asks(12) + ";board b slot 1 code 6 rank 2");
        CHECK.told("none told", x, fine(ONE).about(4), 0);
    }

    @Edge(promise = 4, says = "5 MANY: a LINE more of its sort than there is room for, at its first WORD.")
    static void promise4ManyBoards() {
        fault(5, boards(6) + ";^board g slot 1 code 7 rank 0");
        fault(5, boards(6) + "; ^board");
        fault(5, boards(6) + ";^board a slot 99");
        fault(5, boards(6) + ";ask 1 f 1;^board g slot 1 code 7 rank 0");
    }

    @Edge(promise = 4, says = "5 MANY: a LINE more of its sort than there is room for, at its first WORD.")
    static void promise4ManyAsks() {
        fault(5, asks(12) + ";^ask 3 a 4");
        fault(5, asks(12) + ";  ^ask");
        fault(5, asks(12) + ";^ask 1 zz 0");
        fault(5, asks(12) + ";board b slot 1 code 6 rank 2;^ask 3 b 1");
    }

    // ---- names

    @Edge(promise = 3, says = "NAMES are WORDS but bus, board, ask")
    static void promise3NoNames() {
        fault(1, HEAD + ";board ^bus slot 0 code 5 rank 2");
        fault(1, HEAD + ";board ^board slot 0 code 5 rank 2");
        fault(1, HEAD + ";board ^ask slot 0 code 5 rank 2");
        fault(1, ONE + ";ask 1 ^bus 1");
        fault(1, ONE + ";ask 1 ^board 1");
        fault(1, ONE + ";ask 1 ^ask 1");
    }

    @Edge(promise = 3, says = "NAMES are WORDS but bus, board, ask")
    static void promise3AllOtherWordsAreNames() {
        for (String name : new String[] {"gate", "filter", "window", "slot", "code", "rank", "busa", "bu", "boards", "boar", "asks", "as"}) {
            OpenLines x = fine(HEAD + ";board " + name + " slot 0 code 5 rank 2;ask 1 " + name + " 7");
            x.ticks(1);
            CHECK.told(name + " asks", x, x.board(0, 5), 7);
        }
    }

    @Edge(promise = 4, says = "2 a NAME that isn't told; at it.")
    static void promise4NameThatIsNotTold() {
        fault(2, ONE + ";ask 1 ^b 1");
        fault(2, ONE + ";ask 1 ^aa 1");
        fault(2, ONE + ";ask 1   ^slot 1");
        fault(2, HEAD + ";ask 1 ^a 1");
    }

    @Edge(promise = 3, says = "each told once, ahead of its use")
    static void promise3NameToldBehindItsUse() {
        fault(2, HEAD + ";ask 1 ^a 1;board a slot 0 code 5 rank 2");
        fault(2, ONE + ";ask 1 ^b 1;board b slot 1 code 6 rank 2");
        fine(ONE + ";ask 1 a 1;board b slot 1 code 6 rank 2;ask 1 b 1");
    }

    @Edge(promise = 4, says = "2 a NAME that isn't told; at it.")
    static void promise4NameOfTheBusBefore() {
        OpenLines x = fine(ONE + ";board b slot 1 code 6 rank 2");
        CHECK.refused("b is told no more", x, Texts.bus(x, ONE + ";ask 1 b 1"), 4);
        CHECK.due("fault()", x.fault(), 2);
        CHECK.told("but may be told again", x, Texts.bus(x, ONE + ";board b slot 1 code 6 rank 2"), 2);
    }

    @Edge(promise = 4, says = "3 AGAIN: a NAME, a SLOT, a CODE told again; at it")
    static void promise4NameAgain() {
        fault(3, ONE + ";board ^a slot 1 code 6 rank 2");
        fault(3, ONE + ";board b slot 1 code 6 rank 2;board   ^a");
        fault(3, ONE + ";board b slot 1 code 6 rank 2;board ^b");
    }

    @Edge(promise = 4, says = "3 AGAIN: a NAME, a SLOT, a CODE told again; at it")
    static void promise4SlotAgain() {
        fault(3, ONE + ";board b slot ^0 code 6 rank 2");
        fault(3, ONE + ";board b slot ^00 code 6 rank 2");
        fault(3, ONE + ";board b slot 9 code 6 rank 2;board c slot ^9 code 7 rank 2");
    }

    @Edge(promise = 4, says = "3 AGAIN: a NAME, a SLOT, a CODE told again; at it")
    static void promise4CodeAgain() {
        fault(3, ONE + ";board b slot 1 code ^5 rank 2");
        fault(3, ONE + ";board b slot 1 code ^005 rank 2");
        fault(3, ONE + ";board b slot 1 code 31 rank 2;board c slot 2 code ^31 rank 2");
    }

    @Edge(promise = 3, says = "each unlike those of other BOARDS; RANK 0 .. 7")
    static void promise3LikeNumbersOfOtherSorts() {
        OpenLines x = fine(HEAD + ";board a slot 5 code 1 rank 2;board b slot 1 code 5 rank 2;board c slot 2 code 2 rank 2");
        CHECK.told("RANK of b", x, x.board(1, 2), 2);
        CHECK.told("SLOT of c", x, x.board(2, 0), 2);
    }

    @Edge(promise = 4, says = "a second bus: at that WORD.")
    static void promise4SecondBus() {
        fault(3, HEAD + ";^" + HEAD);
        fault(3, ONE + ";  ^bus");
        fault(3, ONE + ";^bus gate 9");
        fault(3, ONE + ";ask 1 a 1;^bus!");
    }

    @Edge(promise = 4, says = "4 a WHOLE out of bounds (a TIME that is less than the one ahead, too); at it.")
    static void promise4PlaceOfTheWhole() {
        fault(4, "bus gate   ^004 filter 0 window 20");
        fault(4, "bus gate1filter^21window 20");
        fault(4, ONE + ";ask 007 a 1;ask  ^006 a 1");
    }

    // ---- what lacks

    @Edge(promise = 4, says = "6 LACKS: any LINE ahead of the bus; at its WORD")
    static void promise4LineAheadOfTheBus() {
        fault(6, "^board a slot 0 code 5 rank 2;" + HEAD);
        fault(6, "^ask 1 a 1;" + HEAD);
        fault(6, "   ^board");
        fault(6, "^ask!");
        fault(6, "^board a slot 99");
    }

    @Edge(promise = 3, says = "), ahead of all others")
    static void promise3OtherLinesInAnyOrder() {
        OpenLines x = fine(ONE + ";ask 1 a 9;board b slot 1 code 6 rank 2;ask 1 b 8;ask 1 a 7;board c slot 2 code 7 rank 2");
        CHECK.told("BOARDS", x, x.about(3), 3);
        CHECK.told("asks told", x, x.about(4), 3);
        fault(6, "^board a slot 0 code 5 rank 2;" + HEAD + ";board b slot 1 code 6 rank 2");
    }

    @Edge(promise = 4, says = "at the end: no BOARD.")
    static void promise4NoBoard() {
        fault(6, HEAD + "^");
        fault(6, HEAD + "     ^");
        fine(ONE);
    }

    // ---- which of two

    @Edge(promise = 4, says = "FAULTS, the first that is met from the left")
    static void promise4FirstFromTheLeft() {
        fault(4, "bus gate ^4 filter 21 window 20");
        fault(4, "bus gate ^4 !");
        fault(1, "bus gate ^! filter 21");
        fault(3, ONE + ";board ^a slot 0 code 5 rank 8");
        fault(3, ONE + ";board b slot ^0 code 32 rank 8");
        fault(4, ONE + ";board b slot ^10 code 5 rank 8");
        fault(4, ONE + ";ask ^0 zz 0");
        fault(2, ONE + ";ask 1 ^zz 0");
        fault(2, ONE + ";ask 1 ^zz !");
        fault(6, "^ask 0 zz 0");
        fault(1, ONE + ";^boord a slot 0");
        fault(4, ONE + ";board b slot 1 code 6 rank ^9 !");
    }

    @Edge(promise = 4, says = "of one place the least number")
    static void promise4LeastOfOnePlace() {
        fault(1, "^");
        fault(1, HEAD + ";^");
        fault(1, "bus gate 1 filter 0^");
        fault(3, HEAD + ";^bus");
        fault(1, HEAD + ";ask 1 ^bus 1");
        fault(1, "^slot");
        fault(1, "^a slot 0 code 5 rank 2;" + HEAD);
    }

    @Edge(promise = 4, says = "1 FORM: the first byte that begins no TOKEN")
    static void promise4BytesThatBeginNoToken() {
        fault(1, ONE + "^!");
        fault(1, ONE + "^.");
        fault(1, "bus^,gate 1");
        fault(1, HEAD + ";board a^-slot 0");
        fault(1, "^B");
        fault(1, HEAD + ";board ^A");
        fault(1, HEAD + ";board b^A slot 0 code 5 rank 2");
        fault(1, ONE + "^" + (char) 255);
    }
}
