import java.util.ArrayDeque;
import java.util.ArrayList;
import java.util.Arrays;
import java.util.Comparator;
import java.util.Deque;
import java.util.List;
import java.util.Optional;
import java.util.TreeMap;

/** The run of a bus by the document's part III, held in lists and maps. */
final class ModelRun {
    record Request(int ticks, int since) {
    }

    record Entry(int time, int contenders, int first, int second, int elected, int faulty) {
    }

    record Contest(int begun, int contenders, int[] words) {
    }

    final ModelText text;
    final int[] slots;
    int time;
    Optional<Integer> master = Optional.empty();
    int masterTill = -2;
    Optional<Integer> elect = Optional.empty();
    Optional<Contest> contest = Optional.empty();
    final TreeMap<Integer, Request> asking = new TreeMap<>();
    final TreeMap<Integer, Integer> waitsFor = new TreeMap<>();
    final boolean[] stale;
    final int[] lines = new int[6];
    int rounds;
    int through;
    int failed;
    int faultyPasses;
    int putOffs;
    final int[][] ledger;
    final List<Integer> masters = new ArrayList<>();
    final List<Entry> entries = new ArrayList<>();

    ModelRun(ModelText text) {
        this.text = text;
        slots = text.boards.stream().mapToInt(ModelText.Board::slot).toArray();
        stale = new boolean[slots.length];
        ledger = new int[slots.length][6];
        for (int[] row : ledger) {
            row[4] = -2;
        }
    }

    ModelRun(ModelRun o) {
        this(o.text);
        time = o.time;
        master = o.master;
        masterTill = o.masterTill;
        elect = o.elect;
        contest = o.contest;
        asking.putAll(o.asking);
        waitsFor.putAll(o.waitsFor);
        System.arraycopy(o.stale, 0, stale, 0, stale.length);
        System.arraycopy(o.lines, 0, lines, 0, 6);
        rounds = o.rounds;
        through = o.through;
        failed = o.failed;
        faultyPasses = o.faultyPasses;
        putOffs = o.putOffs;
        for (int b = 0; b < ledger.length; b++) {
            System.arraycopy(o.ledger[b], 0, ledger[b], 0, 6);
        }
        masters.addAll(o.masters);
        entries.addAll(o.entries);
    }

    /** Does a wait for b, by others, too? */
    boolean waitsOn(int a, int b) {
        Integer at = waitsFor.get(a);
        while (at != null) {
            if (at == b) {
                return true;
            }
            at = waitsFor.get(at);
        }
        return false;
    }

    int rankOfDay(int b) {
        int rank = text.boards.get(b).rank();
        for (int o = 0; o < slots.length; o++) {
            rank = waitsOn(o, b) ? Math.max(rank, text.boards.get(o).rank()) : rank;
        }
        return rank;
    }

    int word(int b, int pass) {
        int upper = pass == 2 ? text.boards.get(b).code() : rankOfDay(b) * 4 + (stale[b] ? 0 : 2);
        return upper * 2 + (Integer.bitCount(upper) % 2 == 0 ? 1 : 0);
    }

    int[] words(int pass) {
        int[] row = new int[slots.length];
        for (int b = 0; b < row.length; b++) {
            row[b] = word(b, pass);
        }
        return row;
    }

    ModelPass pass(int[] words, int set, int filter) {
        return new ModelPass(slots, words, set, text.head[0], filter, lines.clone());
    }

    boolean hear(int b, int ticks) {
        if (asking.containsKey(b) || master.equals(Optional.of(b))) {
            ledger[b][2]++;
            return false;
        }
        asking.put(b, new Request(ticks, time));
        return true;
    }

    Entry decide(int set, int[] words) {
        int window = text.head[2];
        ModelPass one = pass(words, set, text.head[1]);
        int faulty = one.faulty(window) ? 1 : 0;
        int first = one.winners(window);
        int second = 0;
        if (first != 0) {
            ModelPass two = pass(words(2), first, text.head[1]);
            faulty += two.faulty(window) ? 1 : 0;
            second = two.winners(window);
        }
        int elected = Integer.bitCount(second) == 1 ? Integer.numberOfTrailingZeros(second) : -2;
        return new Entry(time, set, first, second, elected, faulty);
    }

    void tick() {
        time++;
        for (ModelText.Ask ask : text.asks) {
            if (ask.time() == time) {
                hear(ask.board(), ask.ticks());
            }
        }
        if (master.isPresent() && masterTill == time) {
            master = Optional.empty();
            masterTill = -2;
        }
        if (contest.isPresent() && time == contest.get().begun() + 2 * text.head[2]) {
            finish(contest.get());
        }
        if (master.isEmpty() && elect.isPresent() && contest.isEmpty()) {
            int b = elect.get();
            elect = Optional.empty();
            master = Optional.of(b);
            Request request = asking.remove(b);
            masterTill = time + request.ticks();
            ledger[b][0]++;
            ledger[b][4] = Math.max(ledger[b][4], time - request.since());
        }
        boolean wanted = elect.isEmpty() ? !asking.isEmpty()
                : asking.keySet().stream().anyMatch(b -> rankOfDay(b) > rankOfDay(elect.get()));
        if (contest.isEmpty() && wanted) {
            contest = Optional.of(new Contest(time, askers(), words(1)));
        }
        masters.add(master.orElse(-2));
        master.ifPresent(b -> ledger[b][1]++);
    }

    private void finish(Contest was) {
        contest = Optional.empty();
        Entry entry = decide(was.contenders(), was.words());
        entries.add(0, entry);
        through++;
        faultyPasses += entry.faulty();
        if (entry.elected() < 0) {
            failed++;
            elect = Optional.empty();
            return;
        }
        int b = entry.elected();
        if (elect.isPresent() && elect.get() != b) {
            putOffs++;
            ledger[elect.get()][3]++;
        }
        if (stale[b]) {
            rounds++;
            Arrays.fill(stale, false);
        }
        stale[b] = true;
        ledger[b][5]++;
        elect = Optional.of(b);
    }

    int askers() {
        return asking.keySet().stream().mapToInt(b -> 1 << b).sum();
    }

    int state(int what) {
        switch (what) {
            case 0: return master.orElse(-2);
            case 1: return masterTill;
            case 2: return elect.orElse(-2);
            case 3: return contest.isPresent() ? contest.get().begun() + 2 * text.head[2] : -2;
            case 4: return contest.isPresent() ? contest.get().contenders() : 0;
            case 5: return askers();
            case 6: return rounds;
            case 7: return through;
            case 8: return failed;
            case 9: return faultyPasses;
            default: return putOffs;
        }
    }

    int longest() {
        return asking.keySet().stream()
                .min(Comparator.comparingInt((Integer b) -> asking.get(b).since()).thenComparingInt(b -> slots[b]))
                .orElse(-2);
    }

    Deque<Integer> neverMasters() {
        Deque<Integer> row = new ArrayDeque<>();
        for (int slot = 0; slot < 10; slot++) {
            for (int b = 0; b < slots.length; b++) {
                if (slots[b] == slot && ledger[b][0] == 0) {
                    row.add(b);
                }
            }
        }
        return row;
    }
}
