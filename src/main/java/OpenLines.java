import java.util.Arrays;
import java.util.NoSuchElementException;

/**
 * Boards along open lines that are wired together: what each drives and sees in an arbitration,
 * who wins it, and who has the bus when. The promises that it keeps are those of DOC.md.
 */
public final class OpenLines {
    public static final int NONE = -1;

    /** What an answer tells where nobody or nothing is meant, while NONE tells a refusal. */
    private static final int NOBODY = -2;

    private static final int NO_SUCH = 1;
    private static final int NUMBER = 2;
    private static final int FAULT = 4;
    private static final int NOT_SO = 5;

    private static final int ROOM = 700;
    private static final int MOST_BOARDS = 6;
    private static final int MOST_ASKS = 12;
    private static final int SLOTS = 10;
    private static final int LINES = 6;
    private static final int LAST_TICK = 400;
    private static final int MOST_FILTER = 20;
    private static final int MOST_ASKED = 99;
    private static final int MOST_STEPS = 999;
    private static final int FORESIGHT = 2000;

    private static final int WHOLE_LINE = 0;
    private static final int STUCK_LINE = 1;
    private static final int BROKEN_LINE = 2;

    private static final int LOGGED = 16;
    private static final int REMEMBERED = 64;

    /** How many numbers each of these tells, counted from 0. */
    private static final int ABOUT_KINDS = 6;
    private static final int BOARD_KINDS = 7;
    private static final int NOW_KINDS = 11;
    private static final int LEDGER_KINDS = 6;
    private static final int LOG_KINDS = 6;

    private final Tape tape = new Tape();
    private final Reader reader = new Reader(tape);
    private final Arbiter arbiter = new Arbiter();
    private final Run run = new Run();
    private final Run guess = new Run();
    private final Run kept = new Run();
    private Plan plan = new Plan();
    private Plan spare = new Plan();
    private boolean hasBus;
    private boolean hasKept;
    private int refusal;
    private int latestFault;
    private int faultPlace;

    public OpenLines() {
    }

    // ---- the bus

    public int feed(int a, int b, int c, int d, int e) {
        if (!tape.hasRoom(20)) {
            return NONE;
        }
        tape.append(a);
        tape.append(b);
        tape.append(c);
        tape.append(d);
        tape.append(e);
        return tape.count;
    }

    public int bus(int n) {
        if (n < 0 || n > tape.count) {
            return refused(NUMBER);
        }
        latestFault = reader.read(n, spare);
        tape.clear();
        if (latestFault != 0) {
            faultPlace = reader.faultPlace;
            return refused(FAULT);
        }
        Plan old = plan;
        plan = spare;
        spare = old;
        run.start(plan);
        hasBus = true;
        hasKept = false;
        return accepted(plan.boards);
    }

    public int fault() {
        return latestFault;
    }

    public int where() {
        return refusal == FAULT ? faultPlace : NONE;
    }

    public int about(int what) {
        if (!hasBus || !isBelow(what, ABOUT_KINDS)) {
            return refused(NO_SUCH);
        }
        return accepted(what == 5 ? run.time : plan.fact(what));
    }

    public int board(int b, int what) {
        if (!hasBoard(b) || !isBelow(what, BOARD_KINDS)) {
            return refused(NO_SUCH);
        }
        return accepted(what < 3 ? plan.boardFact(b, what) : run.boardState(b, what));
    }

    public int named(int code) {
        int b = hasBus ? plan.boardOfCode(code) : NONE;
        return b == NONE ? refused(NO_SUCH) : accepted(b);
    }

    public int word(int b, int pass) {
        if (!hasBoard(b)) {
            return refused(NO_SUCH);
        }
        if (!isPass(pass)) {
            return refused(NUMBER);
        }
        return accepted(pass == 1 ? run.rankWords()[b] : plan.nameWords[b]);
    }

    // ---- a pass of contenders

    public int drives(int pass, int set, int b, int t) {
        if (!accepts(hasBoard(b), isContest(pass, set) && isTick(t))) {
            return NONE;
        }
        return played(pass, set).drivenAt(b, t);
    }

    public int seen(int pass, int set, int b, int t) {
        if (!accepts(hasBoard(b), isContest(pass, set) && isTick(t))) {
            return NONE;
        }
        return played(pass, set).sightAt(b, t);
    }

    public int taken(int pass, int set, int b, int t) {
        if (!accepts(hasBoard(b), isContest(pass, set) && isTick(t))) {
            return NONE;
        }
        return played(pass, set).believedAt(b, t);
    }

    public int withdrawn(int pass, int set, int b, int t) {
        if (!accepts(hasBoard(b), isContest(pass, set) && isTick(t))) {
            return NONE;
        }
        return played(pass, set).yieldedAt(b, t);
    }

    public int winners(int pass, int set, int t) {
        if (!accepts(hasBus, isContest(pass, set) && isTick(t))) {
            return NONE;
        }
        return played(pass, set).winnersAt(t);
    }

    public int settles(int pass, int set) {
        if (!accepts(hasBus, isContest(pass, set))) {
            return NONE;
        }
        return played(pass, set).changed;
    }

    public int sure(int pass, int set) {
        if (!accepts(hasBus, isContest(pass, set))) {
            return NONE;
        }
        return played(pass, set).sureFrom();
    }

    public int right(int pass, int set) {
        if (!accepts(hasBus, isContest(pass, set))) {
            return NONE;
        }
        return laid(pass).greatestOf(set);
    }

    public int dips(int pass, int set) {
        if (!accepts(hasBus, isContest(pass, set))) {
            return NONE;
        }
        return played(pass, set).dipCount;
    }

    public int faulty(int pass, int set, int t) {
        if (!accepts(hasBus, isContest(pass, set) && isTick(t))) {
            return NONE;
        }
        return played(pass, set).isEvenAt(t) ? 1 : 0;
    }

    public int edges(int pass, int set, int b, int line) {
        if (!accepts(hasBoard(b) && isBelow(line, LINES), isContest(pass, set))) {
            return NONE;
        }
        return played(pass, set).edgesOf(b, line);
    }

    public int filters(int pass, int set) {
        if (!accepts(hasBus, isContest(pass, set))) {
            return NONE;
        }
        Pass scene = laid(pass);
        for (int filter = 0; filter <= MOST_FILTER; filter++) {
            scene.play(set, filter, LAST_TICK);
            int from = scene.sureFrom();
            if (from != NOBODY && from <= plan.window) {
                return filter;
            }
        }
        return NOBODY;
    }

    public int slowest(int pass) {
        if (!accepts(hasBus, isPass(pass))) {
            return NONE;
        }
        Pass scene = laid(pass);
        int slowestSet = 1;
        int latest = NONE;
        for (int set = 1; set < plan.sets(); set++) {
            scene.play(set, plan.filter, LAST_TICK);
            if (scene.changed > latest) {
                latest = scene.changed;
                slowestSet = set;
            }
        }
        return slowestSet;
    }

    public int settled(int pass, int t) {
        if (!accepts(hasBus, isPass(pass) && isTick(t))) {
            return NONE;
        }
        Pass scene = laid(pass);
        int count = 0;
        for (int set = 1; set < plan.sets(); set++) {
            scene.play(set, plan.filter, LAST_TICK);
            if (scene.changed <= t) {
                count++;
            }
        }
        return count;
    }

    public int enough(int pass) {
        if (!accepts(hasBus, isPass(pass))) {
            return NONE;
        }
        Pass scene = laid(pass);
        int least = 0;
        for (int set = 1; set < plan.sets(); set++) {
            scene.play(set, plan.filter, LAST_TICK);
            int from = scene.sureFrom();
            if (from == NOBODY) {
                return NOBODY;
            }
            least = Math.max(least, from);
        }
        return least;
    }

    public int would(int set) {
        if (!accepts(hasBus, isSet(set))) {
            return NONE;
        }
        arbiter.decide(run, run.rankWords(), set);
        return arbiter.elected;
    }

    // ---- the run as it is

    public int now(int what) {
        if (!hasBus || !isBelow(what, NOW_KINDS)) {
            return refused(NO_SUCH);
        }
        return accepted(run.state(what));
    }

    public int ledger(int b, int what) {
        if (!hasBoard(b) || !isBelow(what, LEDGER_KINDS)) {
            return refused(NO_SUCH);
        }
        return accepted(run.tally.account(b, what));
    }

    public int log(int i, int what) {
        if (!hasBus || !isBelow(i, run.tally.logged()) || !isBelow(what, LOG_KINDS)) {
            return refused(NO_SUCH);
        }
        return accepted(run.tally.entry(i, what));
    }

    public int past(int i) {
        if (!accepts(hasBus, isBelow(i, REMEMBERED))) {
            return NONE;
        }
        return run.tally.masterAt(run.time - i);
    }

    public int idle() {
        if (!hasBus) {
            return refused(NO_SUCH);
        }
        return accepted(run.tally.idleTicks(run.time));
    }

    public int waiting(int b) {
        if (!hasBoard(b)) {
            return refused(NO_SUCH);
        }
        return accepted(run.waitersOf(b));
    }

    public int longest() {
        if (!hasBus) {
            return refused(NO_SUCH);
        }
        return accepted(run.longestAsking());
    }

    public int will(int n, int what) {
        if (!accepts(hasBus && isBelow(what, NOW_KINDS), isStepCount(n))) {
            return NONE;
        }
        guess.copy(run);
        guess.advance(n, arbiter);
        return guess.state(what);
    }

    public int till(int b) {
        if (!hasBoard(b)) {
            return refused(NO_SUCH);
        }
        guess.copy(run);
        return accepted(guess.ticksToMaster(b, arbiter));
    }

    // ---- acts

    public int ask(int b, int ticks) {
        if (!hasBoard(b)) {
            return refused(NO_SUCH);
        }
        if (ticks < 1 || ticks > MOST_ASKED) {
            return refused(NUMBER);
        }
        if (!run.hear(b, ticks)) {
            return refused(NOT_SO);
        }
        return accepted(Integer.bitCount(run.askers()));
    }

    public int waits(int b, int other) {
        if (!hasBoard(b)) {
            return refused(NO_SUCH);
        }
        if (other == b || other != NONE && !hasBoard(other)) {
            return refused(NUMBER);
        }
        if (other != NONE && has(run.waitersOf(b), other)) {
            return refused(NOT_SO);
        }
        return accepted(run.letWait(b, other == NONE ? NOBODY : other));
    }

    public int stick(int line, int how) {
        if (!accepts(hasBus && isBelow(line, LINES), how >= WHOLE_LINE && how <= BROKEN_LINE)) {
            return NONE;
        }
        return run.letLine(line, how);
    }

    public int ticks(int n) {
        if (!accepts(hasBus, isStepCount(n))) {
            return NONE;
        }
        run.advance(n, arbiter);
        return run.master;
    }

    public boolean keep() {
        if (!hasBus) {
            refusal = NO_SUCH;
            return false;
        }
        kept.copy(run);
        hasKept = true;
        refusal = 0;
        return true;
    }

    public boolean back() {
        if (!hasKept) {
            refusal = NO_SUCH;
            return false;
        }
        run.copy(kept);
        refusal = 0;
        return true;
    }

    // ---- what is told

    public int never(int i) throws NoSuchElementException {
        int b = hasBus && i >= 0 ? run.neverMaster(i) : NONE;
        if (b == NONE) {
            throw new NoSuchElementException("no such board");
        }
        return b;
    }

    public int size(int what) {
        switch (what) {
            case 0:
                return tape.count;
            case 1:
                return hasBus ? run.asksToCome() : 0;
            case 2:
                return hasKept ? 1 : 0;
            case 3:
                return hasBus ? run.hurtLines() : 0;
            default:
                return NONE;
        }
    }

    public int trouble() {
        return refusal;
    }

    // ---- what the calls share

    private int refused(int number) {
        refusal = number;
        return NONE;
    }

    private int accepted(int answer) {
        refusal = 0;
        return answer;
    }

    /** For calls that are refused by 1 first, then by 2, and by nothing else. */
    private boolean accepts(boolean exists, boolean inBounds) {
        refusal = !exists ? NO_SUCH : !inBounds ? NUMBER : 0;
        return refusal == 0;
    }

    private boolean hasBoard(int b) {
        return hasBus && plan.holds(b);
    }

    private boolean isSet(int set) {
        return set >= 1 && set < plan.sets();
    }

    private boolean isContest(int pass, int set) {
        return isPass(pass) && isSet(set);
    }

    private Pass laid(int pass) {
        Pass scene = arbiter.scene;
        scene.wire(plan, run.linesThat(STUCK_LINE), run.linesThat(BROKEN_LINE));
        System.arraycopy(pass == 1 ? run.rankWords() : plan.nameWords, 0, scene.words, 0, MOST_BOARDS);
        return scene;
    }

    private Pass played(int pass, int set) {
        Pass scene = laid(pass);
        scene.play(set, plan.filter, LAST_TICK);
        return scene;
    }

    private static boolean isPass(int pass) {
        return pass == 1 || pass == 2;
    }

    private static boolean isTick(int t) {
        return t >= 0 && t <= LAST_TICK;
    }

    private static boolean isStepCount(int n) {
        return n >= 1 && n <= MOST_STEPS;
    }

    private static boolean isBelow(int number, int bound) {
        return number >= 0 && number < bound;
    }

    private static boolean has(int set, int member) {
        return (set >> member & 1) != 0;
    }

    /** A word whose bit 0 is such that an odd number of its bits are 1. */
    private static int odd(int bits) {
        return bits | (Integer.bitCount(bits) + 1) % 2;
    }

    /** The bytes that were fed and are not yet read. */
    private static final class Tape {
        final byte[] bytes = new byte[ROOM];
        int count;

        boolean hasRoom(int more) {
            return count + more <= ROOM;
        }

        void append(int four) {
            for (int shift = 24; shift >= 0 && count < ROOM; shift -= 8) {
                bytes[count] = (byte) (four >>> shift);
                count++;
            }
        }

        void clear() {
            count = 0;
        }

        /** A blank behind the end, so that whoever looks ahead needs no test of its own. */
        int byteAt(int i) {
            return i >= 0 && i < count ? bytes[i] & 255 : ' ';
        }
    }

    /** What the text of a bus tells; it does not change while the bus is in use. */
    private static final class Plan {
        int gate;
        int filter;
        int window;
        int boards;
        int asks;
        boolean hasHead;
        final int[] names = new int[MOST_BOARDS];
        final int[] slots = new int[MOST_BOARDS];
        final int[] codes = new int[MOST_BOARDS];
        final int[] ranks = new int[MOST_BOARDS];
        /** The words of the second pass. */
        final int[] nameWords = new int[MOST_BOARDS];
        final int[] askTimes = new int[MOST_ASKS];
        final int[] askBoards = new int[MOST_ASKS];
        final int[] askTicks = new int[MOST_ASKS];

        void clear() {
            gate = 1;
            filter = 0;
            window = 1;
            boards = 0;
            asks = 0;
            hasHead = false;
        }

        void addBoard(int name, int slot, int code, int rank) {
            if (boards < MOST_BOARDS) {
                names[boards] = name;
                slots[boards] = slot;
                codes[boards] = code;
                ranks[boards] = rank;
                nameWords[boards] = odd(code << 1);
                boards++;
            }
        }

        void addAsk(int time, int b, int forTicks) {
            if (asks < MOST_ASKS) {
                askTimes[asks] = time;
                askBoards[asks] = b;
                askTicks[asks] = forTicks;
                asks++;
            }
        }

        /** The time that the next ask must not be ahead of. */
        int latestAsk() {
            return asks >= 1 && asks <= MOST_ASKS ? askTimes[asks - 1] : 1;
        }

        boolean holds(int b) {
            return b >= 0 && b < boards && b < MOST_BOARDS;
        }

        /** Sets of boards are the numbers below this one, as bits. */
        int sets() {
            return 1 << boards;
        }

        int boardOfName(int name) {
            return find(names, name);
        }

        int boardOfSlot(int slot) {
            return find(slots, slot);
        }

        int boardOfCode(int code) {
            return find(codes, code);
        }

        private int find(int[] row, int number) {
            for (int b = 0; b < boards && b < row.length; b++) {
                if (row[b] == number) {
                    return b;
                }
            }
            return NONE;
        }

        int fact(int what) {
            switch (what) {
                case 0:
                    return gate;
                case 1:
                    return filter;
                case 2:
                    return window;
                case 3:
                    return boards;
                default:
                    return asks;
            }
        }

        int boardFact(int b, int what) {
            if (!holds(b)) {
                return NONE;
            }
            return what == 0 ? slots[b] : what == 1 ? codes[b] : ranks[b];
        }
    }

    /** Reads a text from the left up to its end or to the first fault. */
    private static final class Reader {
        private static final int END = 0;
        private static final int WORD = 1;
        private static final int WHOLE = 2;
        private static final int MARK = 3;
        private static final int BAD = 4;

        private static final int FORM = 1;
        private static final int UNTOLD = 2;
        private static final int AGAIN = 3;
        private static final int BOUNDS = 4;
        private static final int MANY = 5;
        private static final int LACKS = 6;

        private static final int WORD_LENGTH = 6;
        private static final int WHOLE_LENGTH = 3;

        int faultPlace;
        private int faultFound;
        private final Tape source;
        private Plan target = new Plan();
        private int end;
        private int next;
        private int kind;
        private int place;
        private int value;

        Reader(Tape tape) {
            source = tape;
        }

        /** The number of the fault, 0 without one. */
        int read(int n, Plan into) {
            target = into;
            end = Math.min(n, ROOM);
            next = 0;
            faultFound = 0;
            faultPlace = 0;
            into.clear();
            boolean more = true;
            // a line has one byte at least, so there are never more lines than bytes
            for (int line = 0; more && line <= ROOM; line++) {
                more = readLine() && goesOn();
            }
            return faultFound;
        }

        private boolean goesOn() {
            step();
            if (kind == END) {
                return target.boards > 0 ? false : fail(LACKS);
            }
            return kind == MARK || fail(FORM);
        }

        private boolean readLine() {
            step();
            if (isWord("bus")) {
                return target.hasHead ? fail(AGAIN) : readHead();
            }
            boolean isBoard = isWord("board");
            if (!isBoard && !isWord("ask")) {
                return fail(FORM);
            }
            if (!target.hasHead) {
                return fail(LACKS);
            }
            if (isBoard) {
                return target.boards >= MOST_BOARDS ? fail(MANY) : readBoard();
            }
            return target.asks >= MOST_ASKS ? fail(MANY) : readAsk();
        }

        private boolean readHead() {
            target.hasHead = true;
            if (!keyword("gate") || !whole(1, 3)) {
                return false;
            }
            target.gate = value;
            if (!keyword("filter") || !whole(0, MOST_FILTER)) {
                return false;
            }
            target.filter = value;
            if (!keyword("window") || !whole(1, 200)) {
                return false;
            }
            target.window = value;
            return true;
        }

        private boolean readBoard() {
            if (!name()) {
                return false;
            }
            int name = value;
            if (target.boardOfName(name) != NONE) {
                return fail(AGAIN);
            }
            if (!keyword("slot") || !whole(0, SLOTS - 1)) {
                return false;
            }
            int slot = value;
            if (target.boardOfSlot(slot) != NONE) {
                return fail(AGAIN);
            }
            if (!keyword("code") || !whole(1, 31)) {
                return false;
            }
            int code = value;
            if (target.boardOfCode(code) != NONE) {
                return fail(AGAIN);
            }
            if (!keyword("rank") || !whole(0, 7)) {
                return false;
            }
            target.addBoard(name, slot, code, value);
            return true;
        }

        private boolean readAsk() {
            if (!whole(target.latestAsk(), 999)) {
                return false;
            }
            int time = value;
            if (!name()) {
                return false;
            }
            int b = target.boardOfName(value);
            if (b == NONE) {
                return fail(UNTOLD);
            }
            if (!whole(1, MOST_ASKED)) {
                return false;
            }
            target.addAsk(time, b, value);
            return true;
        }

        private boolean keyword(String text) {
            step();
            return isWord(text) || fail(FORM);
        }

        private boolean name() {
            step();
            boolean reserved = isWord("bus") || isWord("board") || isWord("ask");
            return kind == WORD && !reserved || fail(FORM);
        }

        private boolean whole(int least, int most) {
            step();
            if (kind != WHOLE) {
                return fail(FORM);
            }
            return value >= least && value <= most || fail(BOUNDS);
        }

        private boolean isWord(String text) {
            return kind == WORD && value == packed(text);
        }

        private boolean fail(int number) {
            faultFound = number;
            faultPlace = place;
            return false;
        }

        private void step() {
            while (next < end && source.byteAt(next) == ' ') {
                next++;
            }
            place = next;
            value = 0;
            if (next >= end) {
                kind = END;
            } else if (isLetter(source.byteAt(next))) {
                stepOverWord();
            } else if (isDigit(source.byteAt(next))) {
                stepOverWhole();
            } else {
                kind = source.byteAt(next) == ';' ? MARK : BAD;
                next++;
            }
        }

        private void stepOverWord() {
            while (next < end && isLetter(source.byteAt(next))) {
                value = value * 27 + letter(source.byteAt(next));
                next++;
            }
            kind = next - place <= WORD_LENGTH ? WORD : BAD;
        }

        private void stepOverWhole() {
            while (next < end && isDigit(source.byteAt(next))) {
                value = value * 10 + source.byteAt(next) - '0';
                next++;
            }
            kind = next - place <= WHOLE_LENGTH ? WHOLE : BAD;
        }

        private static boolean isLetter(int sign) {
            return sign >= 'a' && sign <= 'z';
        }

        private static boolean isDigit(int sign) {
            return sign >= '0' && sign <= '9';
        }

        /** Six letters, each as 1 to 26 in base 27, fit into an int, so words need no texts. */
        private static int packed(String text) {
            int number = 0;
            for (int i = 0; i < text.length(); i++) {
                number = number * 27 + letter(text.charAt(i));
            }
            return number;
        }

        private static int letter(int sign) {
            return sign - 'a' + 1;
        }
    }

    /** One pass of an arbitration, played tick by tick. */
    private static final class Pass {
        /**
         * What is driven at a tick shows in what is driven later by way of the farthest slot (9
         * ticks), the longest dip (18), the longest filter (20) and the slowest gate (3). If
         * nothing changes for so long, nothing will any more.
         */
        private static final int QUIET = 50;

        final int[] words = new int[MOST_BOARDS];
        private final int[][] apart = new int[MOST_BOARDS][MOST_BOARDS];
        private final int[][] driven = new int[MOST_BOARDS][LAST_TICK + 1];
        private final int[][] sight = new int[MOST_BOARDS][LAST_TICK + 1];
        private final int[][] believed = new int[MOST_BOARDS][LAST_TICK + 1];
        private final int[][] yielded = new int[MOST_BOARDS][LAST_TICK + 1];
        private final int[][] dimmed = new int[MOST_BOARDS][LAST_TICK + 1];
        private int boards;
        private int gate;
        private int sticking;
        private int broken;
        private int contenders;
        private int filter;
        /** All ticks of the dimmed rows from this one on are clear. */
        private int dimmedTo;
        /** The tick up to which the pass was played; all later ones are like it. */
        private int last;
        /** The latest tick at which some contender drives what it did not drive before. */
        int changed;
        int dipCount;

        void wire(Plan plan, int stickingLines, int brokenLines) {
            boards = Math.min(plan.boards, MOST_BOARDS);
            gate = plan.gate;
            sticking = stickingLines;
            broken = brokenLines;
            for (int b = 0; b < boards; b++) {
                for (int other = 0; other < boards; other++) {
                    apart[b][other] = Math.abs(plan.slots[b] - plan.slots[other]);
                }
            }
        }

        void play(int set, int filterTicks, int until) {
            contenders = set;
            filter = filterTicks;
            changed = 0;
            dipCount = 0;
            last = 0;
            clearDips();
            boolean moving = true;
            for (int t = 0; moving && t <= until && t <= LAST_TICK; t++) {
                driveAll(t);
                letGoAll(t);
                seeAll(t);
                last = t;
                moving = t - changed < QUIET;
            }
        }

        private void clearDips() {
            for (int b = 0; b < MOST_BOARDS; b++) {
                for (int t = 0; t < dimmedTo && t <= LAST_TICK; t++) {
                    dimmed[b][t] = 0;
                }
            }
            dimmedTo = 0;
        }

        private void driveAll(int t) {
            int heeded = t - gate;
            for (int b = 0; b < boards; b++) {
                driven[b][t] = has(contenders, b) ? words[b] : 0;
                if (heeded >= 0 && heeded < t) {
                    driven[b][t] = above(driven[b][t], yielded[b][heeded]);
                }
            }
        }

        private static int above(int word, int line) {
            return line < 0 ? word : word >> line + 1 << line + 1;
        }

        private void letGoAll(int t) {
            for (int b = 0; t > 0 && b < boards; b++) {
                if (driven[b][t] != driven[b][t - 1]) {
                    changed = t;
                    int gone = driven[b][t - 1] & ~driven[b][t];
                    for (int line = 0; line < LINES; line++) {
                        int nearest = has(gone, line) ? nearestDriver(b, line, t) : 0;
                        if (nearest > 0) {
                            dip(b, line, t, 2 * nearest);
                        }
                    }
                }
            }
        }

        /** How many slots away the nearest other one that drives the line is, 0 without any. */
        private int nearestDriver(int b, int line, int t) {
            int nearest = 0;
            for (int other = 0; other < boards; other++) {
                int w = apart[b][other];
                boolean drivesIt = other != b && (driven[other][t] >> line & 1) != 0;
                if (drivesIt && (nearest == 0 || w < nearest)) {
                    nearest = w;
                }
            }
            return nearest;
        }

        private void dip(int b, int line, int from, int length) {
            dipCount++;
            for (int other = 0; other < boards; other++) {
                int begin = from + apart[b][other];
                for (int t = begin; t < begin + length && t <= LAST_TICK; t++) {
                    dimmed[other][t] |= 1 << line;
                    dimmedTo = dimmedTo > t ? dimmedTo : t + 1;
                }
            }
        }

        private void seeAll(int t) {
            for (int b = 0; b < boards; b++) {
                sight[b][t] = look(b, t);
                believed[b][t] = filtered(b, t);
                int greater = believed[b][t] & ~words[b];
                yielded[b][t] = has(contenders, b) ? highest(greater) : NOBODY;
            }
        }

        private int look(int b, int t) {
            int others = 0;
            for (int other = 0; other < boards; other++) {
                int left = t - apart[b][other];
                if (left >= 0 && left <= t) {
                    others |= driven[other][left];
                }
            }
            return driven[b][t] | others & ~dimmed[b][t] & ~broken | sticking;
        }

        private int filtered(int b, int t) {
            int lines = 0;
            int first = t > filter ? t - filter : 0;
            for (int at = first; at <= t; at++) {
                lines |= sight[b][at];
            }
            return lines;
        }

        private static int highest(int lines) {
            for (int line = LINES - 1; line >= 0; line--) {
                if ((lines >> line & 1) != 0) {
                    return line;
                }
            }
            return NOBODY;
        }

        int drivenAt(int b, int t) {
            return isBelow(b, boards) ? driven[b][playedTick(t)] : 0;
        }

        int sightAt(int b, int t) {
            return isBelow(b, boards) ? sight[b][playedTick(t)] : 0;
        }

        int believedAt(int b, int t) {
            return isBelow(b, boards) ? believed[b][playedTick(t)] : 0;
        }

        int yieldedAt(int b, int t) {
            return isBelow(b, boards) ? yielded[b][playedTick(t)] : NOBODY;
        }

        private int playedTick(int t) {
            return t < 0 ? 0 : t > last ? last : t;
        }

        int winnersAt(int t) {
            int set = 0;
            for (int b = 0; b < boards; b++) {
                if (has(contenders, b) && yieldedAt(b, t) == NOBODY) {
                    set |= 1 << b;
                }
            }
            return set;
        }

        boolean isEvenAt(int t) {
            for (int b = 0; b < boards; b++) {
                if (Integer.bitCount(believedAt(b, t)) % 2 == 0) {
                    return true;
                }
            }
            return false;
        }

        int greatestOf(int set) {
            int greatest = 0;
            int holders = 0;
            for (int b = 0; b < boards; b++) {
                if (has(set, b) && words[b] >= greatest) {
                    holders = words[b] > greatest ? 1 << b : holders | 1 << b;
                    greatest = words[b];
                }
            }
            return holders;
        }

        /** Needs a pass that was played to the last tick. */
        int sureFrom() {
            int due = greatestOf(contenders);
            int from = NOBODY;
            for (int t = last; t >= 0 && winnersAt(t) == due; t--) {
                from = t;
            }
            return from;
        }

        int edgesOf(int b, int line) {
            int count = 0;
            for (int t = 1; t <= last; t++) {
                if (has(sightAt(b, t) ^ sightAt(b, t - 1), line)) {
                    count++;
                }
            }
            return count;
        }
    }

    /** Both passes of an arbitration and what comes of them. */
    private static final class Arbiter {
        final Pass scene = new Pass();
        int firstWinners;
        int secondWinners;
        int evenPasses;
        int elected;

        /** By the words of the first pass that are given and by the lines as they are. */
        void decide(Run run, int[] rankWords, int set) {
            Plan plan = run.plan;
            int window = plan.window;
            scene.wire(plan, run.linesThat(STUCK_LINE), run.linesThat(BROKEN_LINE));
            System.arraycopy(rankWords, 0, scene.words, 0, MOST_BOARDS);
            scene.play(set, plan.filter, window);
            firstWinners = scene.winnersAt(window);
            evenPasses = scene.isEvenAt(window) ? 1 : 0;
            secondWinners = 0;
            if (firstWinners != 0) {
                System.arraycopy(plan.nameWords, 0, scene.words, 0, MOST_BOARDS);
                scene.play(firstWinners, plan.filter, window);
                secondWinners = scene.winnersAt(window);
                evenPasses += scene.isEvenAt(window) ? 1 : 0;
            }
            elected = only(secondWinners);
        }

        private static int only(int set) {
            for (int b = 0; b < MOST_BOARDS; b++) {
                if (set == 1 << b) {
                    return b;
                }
            }
            return NOBODY;
        }
    }

    /** The state of a bus from one tick to the next. */
    private static final class Run {
        final Tally tally = new Tally();
        Plan plan = new Plan();
        int time;
        int master;
        private int masterEnd;
        private int elect;
        private int arbitrationEnd;
        private int contenders;
        private int fresh;
        /** Where the words of the first pass are put together. */
        private final int[] freshWords = new int[MOST_BOARDS];
        /** The words of the first pass as they were when the arbitration that goes on began. */
        private final int[] heldWords = new int[MOST_BOARDS];
        private final int[] lines = new int[LINES];
        private final int[] asked = new int[MOST_BOARDS];
        private final int[] askedSince = new int[MOST_BOARDS];
        private final int[] waitsFor = new int[MOST_BOARDS];

        void start(Plan ofBus) {
            plan = ofBus;
            time = 0;
            master = NOBODY;
            masterEnd = NOBODY;
            elect = NOBODY;
            arbitrationEnd = NOBODY;
            contenders = 0;
            fresh = plan.sets() - 1;
            Arrays.fill(heldWords, 0);
            Arrays.fill(lines, WHOLE_LINE);
            Arrays.fill(asked, 0);
            Arrays.fill(askedSince, 0);
            Arrays.fill(waitsFor, NOBODY);
            tally.start();
        }

        void copy(Run other) {
            plan = other.plan;
            time = other.time;
            master = other.master;
            masterEnd = other.masterEnd;
            elect = other.elect;
            arbitrationEnd = other.arbitrationEnd;
            contenders = other.contenders;
            fresh = other.fresh;
            System.arraycopy(other.heldWords, 0, heldWords, 0, MOST_BOARDS);
            System.arraycopy(other.lines, 0, lines, 0, LINES);
            System.arraycopy(other.asked, 0, asked, 0, MOST_BOARDS);
            System.arraycopy(other.askedSince, 0, askedSince, 0, MOST_BOARDS);
            System.arraycopy(other.waitsFor, 0, waitsFor, 0, MOST_BOARDS);
            tally.copy(other.tally);
        }

        void advance(int n, Arbiter arbiter) {
            for (int i = 0; i < n; i++) {
                tick(arbiter);
            }
        }

        int ticksToMaster(int b, Arbiter arbiter) {
            int before = tally.account(b, Tally.TIMES);
            for (int n = 1; n <= FORESIGHT; n++) {
                tick(arbiter);
                if (tally.account(b, Tally.TIMES) != before) {
                    return n;
                }
            }
            return NOBODY;
        }

        private void tick(Arbiter arbiter) {
            time++;
            hearTold();
            if (time == masterEnd) {
                master = NOBODY;
                masterEnd = NOBODY;
            }
            if (time == arbitrationEnd) {
                finish(arbiter);
            }
            if (arbitrationEnd == NOBODY && master == NOBODY && elect != NOBODY) {
                handOver();
            }
            if (arbitrationEnd == NOBODY && isContested()) {
                begin();
            }
            tally.endTick(time, master);
        }

        private void hearTold() {
            for (int i = 0; i < plan.asks && i < MOST_ASKS; i++) {
                if (plan.askTimes[i] == time) {
                    hear(plan.askBoards[i], plan.askTicks[i]);
                }
            }
        }

        boolean hear(int b, int forTicks) {
            if (!plan.holds(b)) {
                return false;
            }
            if (asked[b] > 0 || master == b) {
                tally.count(b, Tally.REFUSED);
                return false;
            }
            asked[b] = forTicks;
            askedSince[b] = time;
            return true;
        }

        private void finish(Arbiter arbiter) {
            int set = contenders;
            arbitrationEnd = NOBODY;
            contenders = 0;
            arbiter.decide(this, heldWords, set);
            int won = arbiter.elected;
            if (plan.holds(won)) {
                if (elect != NOBODY && elect != won) {
                    tally.putOff(elect);
                }
                spendTurn(won);
                tally.count(won, Tally.WON);
            }
            elect = won;
            tally.enter(time, set, arbiter);
        }

        private void spendTurn(int b) {
            if (!has(fresh, b)) {
                tally.rounds++;
                fresh = plan.sets() - 1;
            }
            fresh &= ~(1 << b);
        }

        private void handOver() {
            int b = elect;
            elect = NOBODY;
            if (plan.holds(b)) {
                master = b;
                masterEnd = time + asked[b];
                tally.enthrone(b, time - askedSince[b]);
                asked[b] = 0;
            }
        }

        private boolean isContested() {
            if (elect == NOBODY) {
                return askers() != 0;
            }
            int electRank = rankOfDay(elect);
            for (int b = 0; b < plan.boards; b++) {
                if (asked[b] > 0 && rankOfDay(b) > electRank) {
                    return true;
                }
            }
            return false;
        }

        private void begin() {
            contenders = askers();
            arbitrationEnd = time + 2 * plan.window;
            System.arraycopy(rankWords(), 0, heldWords, 0, MOST_BOARDS);
        }

        int askers() {
            int set = 0;
            for (int b = 0; b < plan.boards; b++) {
                if (asked[b] > 0) {
                    set |= 1 << b;
                }
            }
            return set;
        }

        int waitersOf(int b) {
            int set = 0;
            // a chain of boards has no more links than there are boards
            for (int link = 0; link < plan.boards; link++) {
                for (int other = 0; other < plan.boards; other++) {
                    int awaited = waitsFor[other];
                    if (awaited == b || awaited >= 0 && (set >> awaited & 1) != 0) {
                        set |= 1 << other;
                    }
                }
            }
            return set;
        }

        private int rankOfDay(int b) {
            int greatest = 0;
            int set = 1 << b | waitersOf(b);
            for (int other = 0; other < plan.boards; other++) {
                if (has(set, other)) {
                    greatest = Math.max(greatest, plan.ranks[other]);
                }
            }
            return greatest;
        }

        /** The words of the first pass as they are now. */
        int[] rankWords() {
            for (int b = 0; b < plan.boards && b < MOST_BOARDS; b++) {
                freshWords[b] = odd(rankOfDay(b) << 3 | (fresh >> b & 1) << 2);
            }
            return freshWords;
        }

        int linesThat(int how) {
            int set = 0;
            for (int line = 0; line < LINES; line++) {
                if (lines[line] == how) {
                    set |= 1 << line;
                }
            }
            return set;
        }

        int hurtLines() {
            return LINES - Integer.bitCount(linesThat(WHOLE_LINE));
        }

        int letLine(int line, int how) {
            if (!isBelow(line, LINES)) {
                return NONE;
            }
            int before = lines[line];
            lines[line] = how;
            return before;
        }

        int letWait(int b, int other) {
            if (!plan.holds(b)) {
                return NONE;
            }
            int before = waitsFor[b];
            waitsFor[b] = other;
            return before;
        }

        int asksToCome() {
            int count = 0;
            for (int i = 0; i < plan.asks && i < MOST_ASKS; i++) {
                if (plan.askTimes[i] > time) {
                    count++;
                }
            }
            return count;
        }

        int longestAsking() {
            int found = NOBODY;
            for (int slot = 0; slot < SLOTS; slot++) {
                int b = plan.boardOfSlot(slot);
                if (plan.holds(b) && asked[b] > 0 && (found < 0 || askedSince[b] < askedSince[found])) {
                    found = b;
                }
            }
            return found;
        }

        int neverMaster(int i) {
            int left = i;
            for (int slot = 0; slot < SLOTS; slot++) {
                int b = plan.boardOfSlot(slot);
                if (plan.holds(b) && tally.account(b, Tally.TIMES) == 0) {
                    if (left == 0) {
                        return b;
                    }
                    left--;
                }
            }
            return NONE;
        }

        int boardState(int b, int what) {
            if (!plan.holds(b)) {
                return NONE;
            }
            switch (what) {
                case 3:
                    return rankOfDay(b);
                case 4:
                    return has(fresh, b) ? 1 : 0;
                case 5:
                    return asked[b];
                default:
                    return waitsFor[b];
            }
        }

        int state(int what) {
            switch (what) {
                case 0:
                    return master;
                case 1:
                    return masterEnd;
                case 2:
                    return elect;
                case 3:
                    return arbitrationEnd;
                case 4:
                    return contenders;
                case 5:
                    return askers();
                default:
                    return tally.total(what);
            }
        }
    }

    /** What a run has come to so far. */
    private static final class Tally {
        static final int TIMES = 0;
        static final int REIGNED = 1;
        static final int REFUSED = 2;
        static final int PUT_OFF = 3;
        static final int LONGEST = 4;
        static final int WON = 5;

        int rounds;
        private int through;
        private int failed;
        private int evenPasses;
        private int putOffs;
        private final int[][] accounts = new int[MOST_BOARDS][LEDGER_KINDS];
        private final int[][] entries = new int[LOGGED][LOG_KINDS];
        private final int[] masters = new int[REMEMBERED];

        void start() {
            rounds = 0;
            through = 0;
            failed = 0;
            evenPasses = 0;
            putOffs = 0;
            for (int b = 0; b < MOST_BOARDS; b++) {
                Arrays.fill(accounts[b], 0);
                accounts[b][LONGEST] = NOBODY;
            }
            for (int i = 0; i < LOGGED; i++) {
                Arrays.fill(entries[i], 0);
            }
            Arrays.fill(masters, NOBODY);
        }

        void copy(Tally other) {
            rounds = other.rounds;
            through = other.through;
            failed = other.failed;
            evenPasses = other.evenPasses;
            putOffs = other.putOffs;
            for (int b = 0; b < MOST_BOARDS; b++) {
                System.arraycopy(other.accounts[b], 0, accounts[b], 0, LEDGER_KINDS);
            }
            for (int i = 0; i < LOGGED; i++) {
                System.arraycopy(other.entries[i], 0, entries[i], 0, LOG_KINDS);
            }
            System.arraycopy(other.masters, 0, masters, 0, REMEMBERED);
        }

        void count(int b, int what) {
            if (isAccount(b, what)) {
                accounts[b][what]++;
            }
        }

        int account(int b, int what) {
            return isAccount(b, what) ? accounts[b][what] : NONE;
        }

        private static boolean isAccount(int b, int what) {
            return isBelow(b, MOST_BOARDS) && isBelow(what, LEDGER_KINDS);
        }

        void putOff(int b) {
            putOffs++;
            count(b, PUT_OFF);
        }

        void enthrone(int b, int waited) {
            if (isBelow(b, MOST_BOARDS)) {
                count(b, TIMES);
                accounts[b][LONGEST] = Math.max(accounts[b][LONGEST], waited);
            }
        }

        void enter(int time, int set, Arbiter arbiter) {
            int[] entry = entries[Math.floorMod(through, LOGGED)];
            entry[0] = time;
            entry[1] = set;
            entry[2] = arbiter.firstWinners;
            entry[3] = arbiter.secondWinners;
            entry[4] = arbiter.elected;
            entry[5] = arbiter.evenPasses;
            through++;
            evenPasses += arbiter.evenPasses;
            if (arbiter.elected == NOBODY) {
                failed++;
            }
        }

        int logged() {
            return Math.min(through, LOGGED);
        }

        int entry(int i, int what) {
            if (!isBelow(i, logged()) || !isBelow(what, LOG_KINDS)) {
                return NONE;
            }
            return entries[Math.floorMod(through - 1 - i, LOGGED)][what];
        }

        void endTick(int time, int master) {
            masters[Math.floorMod(time, REMEMBERED)] = master;
            count(master, REIGNED);
        }

        /** Who was master at the end of a tick that is among the latest 64. */
        int masterAt(int time) {
            return time >= 1 ? masters[Math.floorMod(time, REMEMBERED)] : NOBODY;
        }

        int idleTicks(int time) {
            int count = 0;
            for (int i = 0; i < REMEMBERED && i < time; i++) {
                if (masterAt(time - i) == NOBODY) {
                    count++;
                }
            }
            return count;
        }

        int total(int what) {
            switch (what) {
                case 6:
                    return rounds;
                case 7:
                    return through;
                case 8:
                    return failed;
                case 9:
                    return evenPasses;
                default:
                    return putOffs;
            }
        }
    }
}
