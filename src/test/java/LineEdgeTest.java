/** Boundary cases of promises 10 to 13 (Terms, II): what is driven, seen, taken, and who withdraws. */
public final class LineEdgeTest {
    private static final Check CHECK = new Check("LineEdgeTest");

    /** a drives LINES 4, 1, 0 and b, 3 SLOTS away, 5, 4, 1; c, 5 away from a and 2 from b, looks on. */
    private static final String DIPPING = Buses.text(1, 0, 20, 0, 9, 0, 3, 25, 0, 5, 1, 0);

    private LineEdgeTest() {
    }

    public static void main(String[] args) throws Exception {
        Edges.run(LineEdgeTest.class, CHECK);
    }

    /** a drives LINE 4 alone and b, 9 SLOTS away, LINE 5 alone. */
    private static OpenLines far(int gate, int filter) {
        return Texts.made(Buses.text(gate, filter, 20, 0, 8, 0, 9, 16, 0));
    }

    private static int bit(int lines, int line) {
        return lines >> line & 1;
    }

    // ---- promise 10

    @Edge(promise = 10, says = "TICKS are counted from 0 on, where each drives all LINES of which its WORD's bits are 1.")
    static void promise10AllAtTick0() {
        for (int code = 1; code <= 30; code++) {
            OpenLines x = Texts.made(Buses.text(1, 0, 20, 0, code, code % 8, 9, code + 1, 0));
            CHECK.told("drives in PASS 2", x, x.drives(2, 3, 0, 0), x.word(0, 2));
            CHECK.told("drives in PASS 1", x, x.drives(1, 3, 0, 0), x.word(0, 1));
            CHECK.told("the other one", x, x.drives(2, 3, 1, 0), x.word(1, 2));
        }
    }

    @Edge(promise = 10, says = "What a BOARD drives at a TICK (0 if it doesn't contend).")
    static void promise10WhoDoesNotContend() {
        OpenLines x = far(1, 0);
        for (int t : new int[] {0, 9, 10, 400}) {
            CHECK.told("b at " + t, x, x.drives(2, 1, 1, t), 0);
            CHECK.told("a at " + t, x, x.drives(2, 2, 0, t), 0);
            CHECK.told("a alone at " + t, x, x.drives(2, 1, 0, t), 16);
        }
    }

    @Edge(promise = 10, says = "GATE TICKS later it drives what its WORD has above that LINE alone")
    static void promise10GateTicksLater() {
        for (int gate = 1; gate <= 3; gate++) {
            OpenLines x = far(gate, 0);
            CHECK.told("withdrawn first at 9", x, x.withdrawn(2, 3, 0, 8), -2);
            CHECK.told("withdrawn at 9", x, x.withdrawn(2, 3, 0, 9), 5);
            CHECK.told("drives ahead of it", x, x.drives(2, 3, 0, 8 + gate), 16);
            CHECK.told("drives GATE TICKS later", x, x.drives(2, 3, 0, 9 + gate), 0);
            CHECK.told("drives at 400", x, x.drives(2, 3, 0, 400), 0);
        }
    }

    @Edge(promise = 10, says = "GATE TICKS later it drives what its WORD has above that LINE alone")
    static void promise10AboveEachLine() {
        // LINES 5, 3, 1 are driven, so it may withdraw to 4, 2, 0 alone
        int[] want = {0b101010, 0b101010, 0b101000, 0b101010, 0b100000, 0b101010};
        // LINES 4, 2, 0 are driven
        int[] other = {0b010101, 0b010100, 0b010101, 0b010000, 0b010101, 0b000000};
        for (int line = 0; line < 6; line++) {
            OpenLines x = Texts.made(Buses.text(1, 0, 20, 0, 21, 0, 1, 10, 0));
            x.stick(line, 1);
            CHECK.told("by LINE " + line, x, x.drives(2, 1, 0, 1), want[line]);
            CHECK.told("by LINE " + line, x, x.drives(2, 2, 1, 1), other[line]);
        }
    }

    @Edge(promise = 10, says = "if there is none such: all of it.")
    static void promise10AllOfItAgain() {
        for (int gate = 1; gate <= 3; gate++) {
            for (int filter : new int[] {0, 1, 20}) {
                OpenLines x = Texts.made(Buses.text(gate, filter, 20, 0, 8, 0, 9, 17, 0));
                int back = 18 + 2 * gate + filter;
                CHECK.told("all at first", x, x.drives(2, 3, 1, 8 + gate), 0b100011);
                CHECK.told("above LINE 4", x, x.drives(2, 3, 1, 9 + gate), 0b100000);
                CHECK.told("above LINE 4 still", x, x.drives(2, 3, 1, back - 1), 0b100000);
                CHECK.told("all of it", x, x.drives(2, 3, 1, back), 0b100011);
                CHECK.told("all of it at 400", x, x.drives(2, 3, 1, 400), 0b100011);
            }
        }
    }

    @Edge(promise = 10, says = "(Ahead of TICK GATE: all.)")
    static void promise10AheadOfTickGate() {
        for (int gate = 1; gate <= 3; gate++) {
            OpenLines x = far(gate, 20);
            x.stick(5, 1);
            CHECK.told("withdrawn at 0", x, x.withdrawn(2, 1, 0, 0), 5);
            for (int t = 0; t < gate; t++) {
                CHECK.told("all at " + t, x, x.drives(2, 1, 0, t), 16);
            }
            CHECK.told("nothing at GATE", x, x.drives(2, 1, 0, gate), 0);
        }
    }

    // ---- promise 11

    @Edge(promise = 11, says = "SEEN by a BOARD at a TICK t is a LINE as 1, if it drives it itself")
    static void promise11ItsOwnAtTick0() {
        OpenLines x = far(1, 0);
        CHECK.told("a at 0", x, x.seen(2, 3, 0, 0), 16);
        CHECK.told("b at 0", x, x.seen(2, 3, 1, 0), 32);
        CHECK.told("a at 9", x, x.seen(2, 3, 0, 9), 48);
        CHECK.told("its own no more as it drives no more", x, x.seen(2, 3, 0, 10), 32);
    }

    @Edge(promise = 11, says = "if a CONTENDER so many SLOTS away drove it as many TICKS ahead of t (from 0 on)")
    static void promise11AsManyTicksAhead() {
        for (int apart = 1; apart <= 9; apart++) {
            OpenLines x = Texts.made(Buses.text(1, 0, 20, 9 - apart, 8, 0, 9, 16, 0));
            CHECK.told("a ahead of it", x, x.seen(2, 3, 0, apart - 1), 16);
            CHECK.told("a first", x, x.seen(2, 3, 0, apart), 48);
            CHECK.told("b ahead of it", x, x.seen(2, 3, 1, apart - 1), 32);
            CHECK.told("b first", x, x.seen(2, 3, 1, apart), 48);
            CHECK.told("b last", x, x.seen(2, 3, 1, 2 * apart), 48);
            CHECK.told("b behind it", x, x.seen(2, 3, 1, 2 * apart + 1), 32);
            CHECK.told("b at 400", x, x.seen(2, 3, 1, 400), 32);
        }
    }

    @Edge(promise = 11, says = "if a CONTENDER so many SLOTS away drove it as many TICKS ahead of t (from 0 on)")
    static void promise11ByOneThatDoesNotContend() {
        OpenLines x = far(1, 0);
        CHECK.told("b ahead of it", x, x.seen(2, 1, 1, 8), 0);
        CHECK.told("b first", x, x.seen(2, 1, 1, 9), 16);
        CHECK.told("nothing of its own WORD", x, x.seen(2, 1, 1, 400), 16);
        CHECK.told("a sees nothing of b, which doesn't contend", x, x.seen(2, 1, 0, 400), 16);
    }

    private static void sees(OpenLines x, int set, int b, int[]... fromAndLines) {
        for (int i = 0; i < fromAndLines.length; i++) {
            int end = i + 1 < fromAndLines.length ? fromAndLines[i + 1][0] : fromAndLines[i][0] + 30;
            for (int t = fromAndLines[i][0]; t < end; t++) {
                CHECK.told("seen by " + b + " at " + t, x, x.seen(2, set, b, t), fromAndLines[i][1]);
            }
        }
    }

    private static int[] from(int tick, int lines) {
        return new int[] {tick, lines};
    }

    @Edge(promise = 11, says = "(A BOARD sees its own DIPS, too, from r on.)")
    static void promise11ItsOwnDip() {
        OpenLines x = Texts.made(DIPPING);
        CHECK.told("lets go of LINES 4, 1, 0 at 4", x, x.drives(2, 3, 0, 4), 0);
        sees(x, 3, 0, from(0, 0b010011), from(3, 0b110011), from(4, 0b100000), from(10, 0b110010));
    }

    @Edge(promise = 11, says = "one by a BOARD w SLOTS away that LET GO at TICK r, of n TICKS, is seen from r and w on, n TICKS.")
    static void promise11ADipFromAfar() {
        OpenLines x = Texts.made(DIPPING);
        sees(x, 3, 2, from(0, 0), from(2, 0b110010), from(5, 0b110011), from(9, 0b100000), from(15, 0b110010));
    }

    @Edge(promise = 11, says = "if it drives it itself; or if a CONTENDER so many SLOTS away drove it")
    static void promise11NoDipForWhoDrives() {
        OpenLines x = Texts.made(DIPPING);
        sees(x, 3, 1, from(0, 0b110010), from(3, 0b110011), from(7, 0b110010));
    }

    /** DIPPING told in each order of its boards: who lets go, who drives on, and who looks on may be any of them. */
    @Edge(promise = 11, says = "one by a BOARD w SLOTS away that LET GO at TICK r, of n TICKS, is seen from r and w on, n TICKS.")
    static void promise11ADipOfAnyBoard() {
        int[][] orders = {{0, 1, 2}, {0, 2, 1}, {1, 0, 2}, {1, 2, 0}, {2, 0, 1}, {2, 1, 0}};
        int[] slots = {0, 3, 5};
        int[] codes = {9, 25, 1};
        for (int[] order : orders) {
            int[] told = new int[9];
            for (int role = 0; role < 3; role++) {
                told[3 * order[role]] = slots[role];
                told[3 * order[role] + 1] = codes[role];
            }
            OpenLines x = Texts.made(Buses.text(1, 0, 20, told));
            int both = 1 << order[0] | 1 << order[1];
            CHECK.told("DIPS", x, x.dips(2, both), 2);
            sees(x, both, order[0], from(3, 0b110011), from(4, 0b100000), from(10, 0b110010));
            sees(x, both, order[2], from(5, 0b110011), from(9, 0b100000), from(15, 0b110010));
        }
    }

    @Edge(promise = 11, says = "and no DIP is seen")
    static void promise11NoDipOfAnotherPass() {
        int[] alone = {2, 1, 2};
        int[] first = {3, 3, 2};
        int[] lines = {0b110010, 0b010011, 0b110010};
        for (int b = 0; b < 3; b++) {
            OpenLines x = Texts.made(DIPPING);
            CHECK.told("DIPS", x, x.dips(2, 3), 2);
            sees(x, alone[b], b, from(0, 0), from(first[b], lines[b]));
        }
    }

    @Edge(promise = 11, says = "there is a DIP: twice as many TICKS as the nearest of them is SLOTS away.")
    static void promise11DipsOf2To18Ticks() {
        for (int apart = 1; apart <= 9; apart++) {
            OpenLines x = Texts.made(Buses.text(1, 0, 20, 0, 9, 0, apart, 25, 0));
            int gone = apart + 1;
            CHECK.told("LINE 4 ahead of the DIP", x, bit(x.seen(2, 3, 0, gone - 1), 4), 1);
            for (int t = gone; t < gone + 2 * apart; t++) {
                CHECK.told("LINES in the DIP, at " + t, x, x.seen(2, 3, 0, t), 0b100000);
            }
            CHECK.told("LINES behind the DIP", x, x.seen(2, 3, 0, gone + 2 * apart), 0b110010);
        }
    }

    @Edge(promise = 11, says = "twice as many TICKS as the nearest of them is SLOTS away")
    static void promise11NearestOfSeveral() {
        // LINE 1: c, 2 SLOTS away, and b, 5 away, drive it as a lets go at 3; LINE 0: b alone does
        OpenLines x = Texts.made(Buses.text(1, 0, 20, 4, 9, 0, 9, 29, 0, 2, 13, 0));
        int[] line1 = {1, 1, 1, 0, 0, 0, 0, 1, 1, 1, 0, 0, 0, 0, 0, 0, 0, 0, 0, 0, 0, 0, 0, 0, 1, 1};
        int[] line0 = {1, 1, 1, 0, 0, 0, 0, 0, 0, 0, 0, 0, 0, 1, 1, 1, 1, 1, 1, 1, 1, 1, 1, 1, 1, 1};
        for (int t = 0; t < line1.length; t++) {
            int seen = x.seen(2, 7, 0, t);
            CHECK.told("LINE 1 at " + t, x, bit(seen, 1), line1[t]);
            CHECK.told("LINE 0 at " + t, x, bit(seen, 0), line0[t]);
        }
    }

    @Edge(promise = 11, says = "if others drive it at that TICK, there is a DIP")
    static void promise11NoDipIfAllLetGo() {
        OpenLines x = Texts.made(Buses.text(1, 0, 20, 0, 9, 0, 3, 17, 0));
        CHECK.told("b drives LINE 1 at 3", x, bit(x.drives(2, 3, 1, 3), 1), 1);
        CHECK.told("a and b let go of it at 4", x, bit(x.drives(2, 3, 0, 4) | x.drives(2, 3, 1, 4), 1), 0);
        sees(x, 3, 0, from(0, 0b010011), from(3, 0b110011), from(4, 0b100011), from(7, 0b100000), from(11, 0b100011));
    }

    @Edge(promise = 11, says = "A LINE that STICKS is SEEN as 1 always")
    static void promise11StickingLine() {
        OpenLines x = Texts.made(DIPPING);
        x.stick(1, 1);
        CHECK.told("by one that looks on, at 0", x, x.seen(2, 3, 2, 0), 0b000010);
        CHECK.told("by one that looks on, in a DIP", x, x.seen(2, 3, 2, 9), 0b100010);
        CHECK.told("by who let go, in its own DIP", x, x.seen(2, 3, 0, 4), 0b100010);
        CHECK.told("at 400", x, bit(x.seen(2, 3, 0, 400), 1), 1);
        OpenLines y = far(1, 0);
        y.stick(0, 1);
        CHECK.told("though none drives it", y, y.seen(2, 3, 0, 0), 0b010001);
        CHECK.told("that it drives itself", y, y.stick(4, 1), 0);
        CHECK.told("at 0", y, y.seen(2, 3, 0, 0), 0b010001);
    }

    @Edge(promise = 11, says = "one that is BROKEN as 0, but by a BOARD that drives it itself (as 1).")
    static void promise11BrokenLine() {
        OpenLines x = Texts.made(DIPPING);
        x.stick(4, 2);
        sees(x, 3, 0, from(0, 0b010011), from(3, 0b110011), from(4, 0b100000), from(10, 0b100010));
        sees(x, 3, 1, from(0, 0b110010), from(3, 0b110011), from(7, 0b110010));
        sees(x, 3, 2, from(0, 0), from(2, 0b100010), from(5, 0b100011), from(9, 0b100000), from(15, 0b100010));
    }

    @Edge(promise = 11, says = "one that is BROKEN as 0, but by a BOARD that drives it itself (as 1).")
    static void promise11WholeAgain() {
        OpenLines x = far(1, 0);
        x.stick(5, 2);
        CHECK.told("BROKEN", x, x.seen(2, 3, 0, 9), 16);
        x.stick(5, 1);
        CHECK.told("STICKS", x, x.seen(2, 3, 0, 0), 48);
        x.stick(5, 0);
        CHECK.told("whole", x, x.seen(2, 3, 0, 8), 16);
        CHECK.told("whole", x, x.seen(2, 3, 0, 9), 48);
    }

    @Edge(promise = 11, says = "LINES 0 .. 5. A WORD has a bit for each.")
    static void promise11FirstAndLastLine() {
        OpenLines x = Texts.made(Buses.text(1, 0, 20, 0, 15, 0, 1, 16, 0));
        CHECK.told("all LINES but 5", x, x.seen(2, 1, 0, 0), 0b011111);
        CHECK.told("LINE 5 alone", x, x.seen(2, 2, 1, 0), 0b100000);
        CHECK.told("all LINES", x, x.seen(2, 3, 0, 1), 0b111111);
        for (int line = 0; line < 6; line++) {
            x.stick(line, 1);
            CHECK.told("LINES up to " + line, x, x.seen(2, 2, 0, 0), (2 << line) - 1);
        }
    }

    // ---- promise 12

    @Edge(promise = 12, says = "if it was SEEN as 1 at t or at one of the FILTER TICKS ahead of it")
    static void promise12Filter0() {
        OpenLines x = Texts.made(DIPPING);
        for (int t = 0; t < 18; t++) {
            for (int b = 0; b < 3; b++) {
                CHECK.told("as SEEN at " + t, x, x.taken(2, 3, b, t), x.seen(2, 3, b, t));
            }
        }
    }

    @Edge(promise = 12, says = "if it was SEEN as 1 at t or at one of the FILTER TICKS ahead of it")
    static void promise12FilterTicksAheadAndNoMore() {
        for (int filter : new int[] {0, 1, 2, 19, 20}) {
            OpenLines x = far(1, filter);
            CHECK.told("SEEN last at 18", x, x.seen(2, 3, 1, 18), 48);
            CHECK.told("SEEN no more", x, x.seen(2, 3, 1, 19), 32);
            CHECK.told("taken last", x, x.taken(2, 3, 1, 18 + filter), 48);
            CHECK.told("taken no more", x, x.taken(2, 3, 1, 19 + filter), 32);
        }
    }

    @Edge(promise = 12, says = "at one of the FILTER TICKS ahead of it (from 0 on)")
    static void promise12From0On() {
        OpenLines x = far(3, 20);
        for (int t = 0; t < 9; t++) {
            CHECK.told("a at " + t, x, x.taken(2, 3, 0, t), 16);
        }
        CHECK.told("at once what is SEEN", x, x.taken(2, 3, 0, 9), 48);
        CHECK.told("what it drove itself last at 11", x, x.taken(2, 3, 0, 31), 48);
        CHECK.told("no more", x, x.taken(2, 3, 0, 32), 32);
        CHECK.told("at 400", x, x.taken(2, 3, 0, 400), 32);
    }

    @Edge(promise = 12, says = "if it was SEEN as 1 at t or at one of the FILTER TICKS ahead of it")
    static void promise12ADipIsFiltered() {
        OpenLines six = Texts.made(DIPPING.replace("filter 0", "filter 6"));
        OpenLines five = Texts.made(DIPPING.replace("filter 0", "filter 5"));
        for (int t = 3; t < 20; t++) {
            CHECK.told("by as many TICKS as the DIP has, at " + t, six, bit(six.taken(2, 3, 0, t), 4), 1);
            CHECK.told("by one less, at " + t, five, bit(five.taken(2, 3, 0, t), 4), t == 9 ? 0 : 1);
        }
    }

    // ---- promise 13

    @Edge(promise = 13, says = "if that is the highest one that it takes for 1 at t and of which its WORD's bit is 0")
    static void promise13HighestOfSeveral() {
        int[] want = {-2, -2, 2, -2, 4, 5};
        for (int high = 0; high < 6; high++) {
            OpenLines x = Texts.made(Buses.text(1, 0, 20, 0, 5, 0));
            CHECK.told("its WORD", x, x.word(0, 2), 0b001011);
            x.stick(high, 1);
            CHECK.told("LINE " + high + " sticks", x, x.withdrawn(2, 1, 0, 0), want[high]);
        }
        OpenLines x = Texts.made(Buses.text(1, 0, 20, 0, 4, 0));
        for (int high = 0; high < 6; high++) {
            x.stick(high, 1);
            CHECK.told("all up to LINE " + high + " stick", x, x.withdrawn(2, 1, 0, 0), high == 3 ? 2 : high);
        }
    }

    @Edge(promise = 13, says = "WITHDRAWN at t to a LINE is a CONTENDER")
    static void promise13FirstAndLastTick() {
        for (int filter : new int[] {0, 20}) {
            OpenLines x = far(2, filter);
            CHECK.told("b ahead of it", x, x.withdrawn(2, 3, 1, 8), -2);
            CHECK.told("b first", x, x.withdrawn(2, 3, 1, 9), 4);
            CHECK.told("b last", x, x.withdrawn(2, 3, 1, 19 + filter), 4);
            CHECK.told("b no more", x, x.withdrawn(2, 3, 1, 20 + filter), -2);
            CHECK.told("b at 400", x, x.withdrawn(2, 3, 1, 400), -2);
            CHECK.told("a at 400", x, x.withdrawn(2, 3, 0, 400), 5);
        }
    }

    @Edge(promise = 13, says = "The LINE to which it is WITHDRAWN; -2 (also if it doesn't contend).")
    static void promise13WhoDoesNotContend() {
        OpenLines x = far(1, 0);
        CHECK.told("it takes LINE 5 for 1", x, x.taken(2, 2, 0, 9), 32);
        CHECK.told("but doesn't contend", x, x.withdrawn(2, 2, 0, 9), -2);
        x.stick(0, 1);
        CHECK.told("a LINE that sticks", x, x.withdrawn(2, 2, 0, 0), -2);
        CHECK.told("who contends: LINE 0", x, x.withdrawn(2, 2, 1, 0), 0);
    }
}
