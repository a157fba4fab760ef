import java.util.ArrayList;
import java.util.List;
import java.util.NoSuchElementException;

/** The document's face over the models of the text, of a pass and of the run. */
public final class Model {
    private String tape = "";
    private ModelRun run;
    private ModelRun kept;
    private int trouble;
    private int fault;
    private int place;

    private int no(int number) {
        trouble = number;
        return -1;
    }

    private int yes(int answer) {
        trouble = 0;
        return answer;
    }

    private boolean lacks(int b) {
        return run == null || b < 0 || b >= run.slots.length;
    }

    private boolean badSet(int set) {
        return set <= 0 || set >= 1 << run.slots.length;
    }

    private static boolean out(int number, int least, int most) {
        return number < least || number > most;
    }

    private ModelPass play(int pass, int set) {
        return run.pass(run.words(pass), set, run.text.head[1]);
    }

    public int feed(int a, int b, int c, int d, int e) {
        if (tape.length() > 680) {
            return -1;
        }
        StringBuilder more = new StringBuilder(tape);
        for (int number : new int[] {a, b, c, d, e}) {
            more.append((char) (number >>> 24)).append((char) (number >> 16 & 255));
            more.append((char) (number >> 8 & 255)).append((char) (number & 255));
        }
        tape = more.toString();
        return tape.length();
    }

    public int bus(int n) {
        if (out(n, 0, tape.length())) {
            return no(2);
        }
        String text = tape.substring(0, n);
        tape = "";
        try {
            run = new ModelRun(new ModelText(text));
            kept = null;
            fault = 0;
            return yes(run.slots.length);
        } catch (ModelText.Fault e) {
            fault = e.number;
            place = e.place;
            return no(4);
        }
    }

    public int fault() {
        return fault;
    }

    public int where() {
        return trouble == 4 ? place : -1;
    }

    public int about(int what) {
        if (run == null || out(what, 0, 5)) {
            return no(1);
        }
        return yes(what < 3 ? run.text.head[what] : what == 3 ? run.slots.length : what == 4 ? run.text.asks.size() : run.time);
    }

    public int board(int b, int what) {
        if (lacks(b) || out(what, 0, 6)) {
            return no(1);
        }
        ModelText.Board told = run.text.boards.get(b);
        int[] facts = {told.slot(), told.code(), told.rank(), run.rankOfDay(b), run.stale[b] ? 0 : 1,
            run.asking.containsKey(b) ? run.asking.get(b).ticks() : 0, run.waitsFor.getOrDefault(b, -2)};
        return yes(facts[what]);
    }

    public int named(int code) {
        for (int b = 0; run != null && b < run.slots.length; b++) {
            if (run.text.boards.get(b).code() == code) {
                return yes(b);
            }
        }
        return no(1);
    }

    public int word(int b, int pass) {
        return lacks(b) ? no(1) : out(pass, 1, 2) ? no(2) : yes(run.word(b, pass));
    }

    private int look(boolean lacks, int pass, int set, int t) {
        if (lacks) {
            return no(1);
        }
        return out(pass, 1, 2) || badSet(set) || out(t, 0, 400) ? no(2) : yes(0);
    }

    public int drives(int pass, int set, int b, int t) {
        return look(lacks(b), pass, set, t) < 0 ? -1 : play(pass, set).drivesBits(b, t);
    }

    public int seen(int pass, int set, int b, int t) {
        return look(lacks(b), pass, set, t) < 0 ? -1 : play(pass, set).seenBits(b, t);
    }

    public int taken(int pass, int set, int b, int t) {
        return look(lacks(b), pass, set, t) < 0 ? -1 : play(pass, set).takenBits(b, t);
    }

    public int withdrawn(int pass, int set, int b, int t) {
        return look(lacks(b), pass, set, t) < 0 ? -1 : play(pass, set).withdrawn[b][t];
    }

    public int winners(int pass, int set, int t) {
        return look(run == null, pass, set, t) < 0 ? -1 : play(pass, set).winners(t);
    }

    public int settles(int pass, int set) {
        return look(run == null, pass, set, 0) < 0 ? -1 : play(pass, set).settles();
    }

    public int sure(int pass, int set) {
        return look(run == null, pass, set, 0) < 0 ? -1 : play(pass, set).sure();
    }

    public int right(int pass, int set) {
        return look(run == null, pass, set, 0) < 0 ? -1 : play(pass, set).right();
    }

    public int dips(int pass, int set) {
        return look(run == null, pass, set, 0) < 0 ? -1 : play(pass, set).dips.size();
    }

    public int faulty(int pass, int set, int t) {
        return look(run == null, pass, set, t) < 0 ? -1 : play(pass, set).faulty(t) ? 1 : 0;
    }

    public int edges(int pass, int set, int b, int line) {
        return look(lacks(b) || out(line, 0, 5), pass, set, 0) < 0 ? -1 : play(pass, set).edges(b, line);
    }

    public int filters(int pass, int set) {
        if (look(run == null, pass, set, 0) < 0) {
            return -1;
        }
        for (int filter = 0; filter <= 20; filter++) {
            if (run.pass(run.words(pass), set, filter).rightFrom(run.text.head[2])) {
                return filter;
            }
        }
        return -2;
    }

    private List<ModelPass> all(int pass) {
        List<ModelPass> list = new ArrayList<>();
        for (int set = 1; set < 1 << run.slots.length; set++) {
            list.add(play(pass, set));
        }
        return list;
    }

    public int slowest(int pass) {
        if (look(run == null, pass, 1, 0) < 0) {
            return -1;
        }
        List<ModelPass> list = all(pass);
        int most = list.stream().mapToInt(ModelPass::settles).max().orElse(0);
        return list.stream().filter(p -> p.settles() == most).findFirst().get().set;
    }

    public int settled(int pass, int t) {
        return look(run == null, pass, 1, t) < 0 ? -1 : (int) all(pass).stream().filter(p -> p.settles() <= t).count();
    }

    public int enough(int pass) {
        if (look(run == null, pass, 1, 0) < 0) {
            return -1;
        }
        List<ModelPass> list = all(pass);
        for (int window = 0; window <= 400; window++) {
            int w = window;
            if (list.stream().allMatch(p -> p.rightFrom(w))) {
                return window;
            }
        }
        return -2;
    }

    public int would(int set) {
        return look(run == null, 1, set, 0) < 0 ? -1 : run.decide(set, run.words(1)).elected();
    }

    public int now(int what) {
        return run == null || out(what, 0, 10) ? no(1) : yes(run.state(what));
    }

    public int ledger(int b, int what) {
        return lacks(b) || out(what, 0, 5) ? no(1) : yes(run.ledger[b][what]);
    }

    public int log(int i, int what) {
        if (run == null || out(i, 0, Math.min(16, run.entries.size()) - 1) || out(what, 0, 5)) {
            return no(1);
        }
        ModelRun.Entry e = run.entries.get(i);
        return yes(new int[] {e.time(), e.contenders(), e.first(), e.second(), e.elected(), e.faulty()}[what]);
    }

    public int past(int i) {
        if (run == null || out(i, 0, 63)) {
            return no(run == null ? 1 : 2);
        }
        int at = run.masters.size() - 1 - i;
        return yes(at < 0 ? -2 : run.masters.get(at));
    }

    public int idle() {
        if (run == null) {
            return no(1);
        }
        int size = run.masters.size();
        return yes((int) run.masters.subList(Math.max(0, size - 64), size).stream().filter(b -> b == -2).count());
    }

    public int waiting(int b) {
        if (lacks(b)) {
            return no(1);
        }
        int set = 0;
        for (int o = 0; o < run.slots.length; o++) {
            set += run.waitsOn(o, b) ? 1 << o : 0;
        }
        return yes(set);
    }

    public int longest() {
        return run == null ? no(1) : yes(run.longest());
    }

    public int will(int n, int what) {
        if (run == null || out(what, 0, 10) || out(n, 1, 999)) {
            return no(run == null || out(what, 0, 10) ? 1 : 2);
        }
        ModelRun then = new ModelRun(run);
        for (int i = 0; i < n; i++) {
            then.tick();
        }
        return yes(then.state(what));
    }

    public int till(int b) {
        if (lacks(b)) {
            return no(1);
        }
        ModelRun then = new ModelRun(run);
        for (int i = 1; i <= 2000; i++) {
            boolean was = then.state(0) == b;
            then.tick();
            if (!was && then.state(0) == b) {
                return yes(i);
            }
        }
        return yes(-2);
    }

    public int ask(int b, int ticks) {
        if (lacks(b) || out(ticks, 1, 99)) {
            return no(lacks(b) ? 1 : 2);
        }
        return run.hear(b, ticks) ? yes(run.asking.size()) : no(5);
    }

    public int waits(int b, int other) {
        if (lacks(b)) {
            return no(1);
        }
        if (other != -1 && lacks(other) || other == b) {
            return no(2);
        }
        if (other != -1 && run.waitsOn(other, b)) {
            return no(5);
        }
        Integer was = other == -1 ? run.waitsFor.remove(b) : run.waitsFor.put(b, other);
        return yes(was == null ? -2 : was);
    }

    public int stick(int line, int how) {
        if (run == null || out(line, 0, 5) || out(how, 0, 2)) {
            return no(run == null || out(line, 0, 5) ? 1 : 2);
        }
        int was = run.lines[line];
        run.lines[line] = how;
        return yes(was);
    }

    public int ticks(int n) {
        if (run == null || out(n, 1, 999)) {
            return no(run == null ? 1 : 2);
        }
        for (int i = 0; i < n; i++) {
            run.tick();
        }
        return yes(run.state(0));
    }

    public boolean keep() {
        if (run == null) {
            return no(1) > 0;
        }
        kept = new ModelRun(run);
        return yes(1) > 0;
    }

    public boolean back() {
        if (kept == null) {
            return no(1) > 0;
        }
        run = new ModelRun(kept);
        return yes(1) > 0;
    }

    public int never(int i) throws NoSuchElementException {
        List<Integer> row = run == null ? List.of() : new ArrayList<>(run.neverMasters());
        if (out(i, 0, row.size() - 1)) {
            throw new NoSuchElementException();
        }
        return row.get(i);
    }

    public int size(int what) {
        switch (what) {
            case 0: return tape.length();
            case 1: return run == null ? 0 : (int) run.text.asks.stream().filter(a -> a.time() > run.time).count();
            case 2: return kept == null ? 0 : 1;
            case 3: return run == null ? 0 : 6 - (int) java.util.Arrays.stream(run.lines).filter(l -> l == 0).count();
            default: return -1;
        }
    }

    public int trouble() {
        return trouble;
    }
}
