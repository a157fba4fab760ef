import java.lang.reflect.InvocationTargetException;
import java.lang.reflect.Method;
import java.util.ArrayList;
import java.util.List;
import java.util.Random;
import java.util.TreeMap;

/** Long runs of drawn calls, wrong ones among them, on the class and on the model. */
public final class OracleTest {
    /** What an object answers later is free. */
    private static final int CALLS = 512;

    private final Random draw;
    private final Check check;
    private final String run;
    private final OpenLines real = new OpenLines();
    private final Model model = new Model();
    private final TreeMap<String, Method> ofReal = new TreeMap<>();
    private final TreeMap<String, Method> ofModel = new TreeMap<>();
    private final List<String> history = new ArrayList<>();
    private int boards = 1;

    private OracleTest(Check check, long seed) {
        this.check = check;
        this.run = "run " + seed;
        draw = new Random(seed);
        for (Method m : OpenLines.class.getDeclaredMethods()) {
            if (java.lang.reflect.Modifier.isPublic(m.getModifiers())) {
                ofReal.put(m.getName(), m);
            }
        }
        for (Method m : Model.class.getDeclaredMethods()) {
            ofModel.put(m.getName(), m);
        }
    }

    public static void main(String[] args) throws Exception {
        int runs = args.length > 0 ? Integer.parseInt(args[0]) : 80;
        long first = args.length > 1 ? Long.parseLong(args[1]) : 1;
        Check check = new Check("OracleTest");
        for (long seed = first; seed < first + runs && check.isClean(); seed++) {
            new OracleTest(check, seed).go();
        }
        check.end();
    }

    private void go() throws Exception {
        load(new Draft(draw).whole());
        List<String> names = new ArrayList<>(ofReal.keySet());
        while (history.size() < CALLS && check.isClean()) {
            int dice = draw.nextInt(100);
            if (dice < 2) {
                load(dice == 0 ? new Draft(draw).whole() : new Draft(draw).spoilt());
            } else if (dice < 22) {
                call("ticks", argument("n"));
            } else if (dice < 36) {
                call("ask", argument("b"), 1 + draw.nextInt(30));
            } else {
                String name = names.get(draw.nextInt(names.size()));
                call(name, drawn(name));
            }
            call("trouble");
        }
    }

    private void load(String text) throws Exception {
        for (int at = 0; at < text.length(); at += 20) {
            call("feed", Texts.four(text, at), Texts.four(text, at + 4), Texts.four(text, at + 8),
                    Texts.four(text, at + 12), Texts.four(text, at + 16));
        }
        call("bus", draw.nextInt(40) == 0 ? draw.nextInt(900) - 50 : Math.min(text.length(), model.size(0)));
        call("trouble");
        call("fault");
        call("where");
        boards = Math.max(1, call("about", 3));
    }

    private Object[] drawn(String name) {
        switch (name) {
            case "feed": return of(draw.nextInt(), draw.nextInt(), draw.nextInt(), draw.nextInt(), draw.nextInt());
            case "bus": return of(draw.nextInt(10) < 9 ? -1 - draw.nextInt(9) : draw.nextInt(800));
            case "about": return of(draw.nextInt(8) - 1);
            case "board": return of(argument("b"), draw.nextInt(9) - 1);
            case "named": return of(draw.nextInt(36) - 2);
            case "word": return of(argument("b"), argument("pass"));
            case "drives": case "seen": case "taken": case "withdrawn":
                return of(argument("pass"), argument("set"), argument("b"), argument("t"));
            case "winners": case "faulty": return of(argument("pass"), argument("set"), argument("t"));
            case "settles": case "sure": case "right": case "dips": case "filters":
                return of(argument("pass"), argument("set"));
            case "edges": return of(argument("pass"), argument("set"), argument("b"), draw.nextInt(8) - 1);
            case "slowest": case "enough": return of(argument("pass"));
            case "settled": return of(argument("pass"), argument("t"));
            case "would": return of(argument("set"));
            case "now": return of(draw.nextInt(13) - 1);
            case "ledger": return of(argument("b"), draw.nextInt(8) - 1);
            case "log": return of(draw.nextInt(19) - 1, draw.nextInt(8) - 1);
            case "past": return of(draw.nextInt(68) - 2);
            case "waiting": case "till": return of(argument("b"));
            case "will": return of(argument("n"), draw.nextInt(13) - 1);
            case "ask": return of(argument("b"), draw.nextInt(102) - 1);
            case "waits": return of(argument("b"), draw.nextInt(3) == 0 ? -1 : argument("b"));
            case "stick": return of(draw.nextInt(8) - 1, draw.nextInt(3) == 0 ? draw.nextInt(5) - 1 : 0);
            case "ticks": return of(argument("n"));
            case "never": return of(draw.nextInt(8) - 1);
            case "size": return of(draw.nextInt(6) - 1);
            default: return of();
        }
    }

    private static Object[] of(Object... values) {
        return values;
    }

    private int argument(String sort) {
        if (draw.nextInt(60) == 0) {
            int[] wild = {-1, -2, 0, 3, 401, 1000, 999, 64, 400, Integer.MAX_VALUE, Integer.MIN_VALUE, draw.nextInt()};
            return wild[draw.nextInt(wild.length)] + draw.nextInt(2);
        }
        switch (sort) {
            case "b": return draw.nextInt(boards);
            case "pass": return 1 + draw.nextInt(2);
            case "set": return 1 + draw.nextInt((1 << boards) - 1 > 0 ? (1 << boards) - 1 : 1);
            case "t": return draw.nextInt(4) == 0 ? draw.nextInt(401) : draw.nextInt(40);
            default: return draw.nextInt(20) == 0 ? 1 + draw.nextInt(999) : 1 + draw.nextInt(30);
        }
    }

    private int call(String name, Object... arguments) throws Exception {
        if (history.size() >= CALLS) {
            return 0;
        }
        String want = answer(ofModel.get(name), model, arguments);
        String got = answer(ofReal.get(name), real, arguments);
        history.add(name + java.util.Arrays.toString(arguments) + " " + want);
        check.due(run + ", call " + history.size(), got.equals(want), true);
        if (!got.equals(want)) {
            history.subList(Math.max(0, history.size() - 25), history.size()).forEach(System.out::println);
            System.out.println("   answered " + got);
        }
        return want.matches("-?[0-9]+") ? Integer.parseInt(want) : 0;
    }

    private static String answer(Method method, Object on, Object[] arguments) throws Exception {
        try {
            return String.valueOf(method.invoke(on, arguments));
        } catch (InvocationTargetException e) {
            return "throws." + e.getCause().getClass().getName();
        }
    }
}
