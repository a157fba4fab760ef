import java.util.ArrayList;
import java.util.List;
import java.util.Random;

/** Drawn texts, whole ones and ones that mostly have a fault. */
final class Draft {
    private static final String[] NAMES = {"a", "b", "slot", "gatesx", "z", "rank", "code", "lines"};

    private final Random draw;

    Draft(Random draw) {
        this.draw = draw;
    }

    String whole() {
        StringBuilder text = new StringBuilder();
        int window = draw.nextInt(3) == 0 ? 1 + draw.nextInt(200) : 1 + draw.nextInt(25);
        text.append("bus gate ").append(1 + draw.nextInt(3)).append(" filter ");
        text.append(draw.nextInt(2) == 0 ? 0 : draw.nextInt(21)).append(" window ").append(window);
        List<Integer> slots = shuffled(0, 9);
        List<Integer> codes = shuffled(1, 31);
        int boards = 1 + draw.nextInt(6);
        for (int b = 0; b < boards; b++) {
            text.append(";board ").append(NAMES[b]).append(" slot ").append(slots.get(b)).append(" code ");
            text.append(codes.get(b)).append(" rank ").append(draw.nextInt(8));
        }
        int time = 1;
        int asks = draw.nextInt(13);
        for (int i = 0; i < asks; i++) {
            time = Math.min(999, time + draw.nextInt(40));
            text.append(";ask ").append(time).append(' ').append(NAMES[draw.nextInt(boards)]);
            text.append(' ').append(1 + draw.nextInt(draw.nextInt(3) == 0 ? 99 : 12));
        }
        return text.toString();
    }

    private List<Integer> shuffled(int from, int to) {
        List<Integer> list = new ArrayList<>();
        for (int i = from; i <= to; i++) {
            list.add(draw.nextInt(list.size() + 1), i);
        }
        return list;
    }

    String spoilt() {
        switch (draw.nextInt(3)) {
            case 0: return spoiltBytes();
            case 1: return spoiltLines();
            default: return spoiltTokens();
        }
    }

    private String spoiltBytes() {
        StringBuilder text = new StringBuilder(whole());
        int changes = 1 + draw.nextInt(3);
        String signs = " ;0123456789abcdeklorstux \tA";
        for (int i = 0; i < changes; i++) {
            int at = draw.nextInt(text.length());
            switch (draw.nextInt(3)) {
                case 0: text.setCharAt(at, signs.charAt(draw.nextInt(signs.length()))); break;
                case 1: text.deleteCharAt(at); break;
                default: text.insert(at, signs.charAt(draw.nextInt(signs.length())));
            }
        }
        return text.toString();
    }

    private String spoiltLines() {
        List<String> lines = new ArrayList<>(List.of(whole().split(";")));
        int changes = 1 + draw.nextInt(6);
        for (int i = 0; i < changes; i++) {
            String line = lines.get(draw.nextInt(lines.size()));
            if (draw.nextInt(3) > 0) {
                lines.remove(line);
            }
            if (draw.nextInt(3) > 0 || lines.isEmpty()) {
                lines.add(draw.nextInt(lines.size() + 1), line);
            }
        }
        while (draw.nextInt(3) == 0 && lines.size() < 20) {
            String name = "" + (char) ('c' + draw.nextInt(20));
            lines.add(draw.nextInt(4) == 0 ? "ask 999 a 1"
                    : "board " + name + " slot " + draw.nextInt(11) + " code " + draw.nextInt(33) + " rank 7");
        }
        return String.join(";", lines);
    }

    private String spoiltTokens() {
        String[] tokens = whole().replace(";", " ; ").split(" ");
        String[] others = {"bus", "board", "ask", "a", "b", "q", "slot", "0", "10", "9", "32", "999", "21", ";"};
        int changes = 1 + draw.nextInt(2);
        for (int i = 0; i < changes; i++) {
            int at = draw.nextInt(tokens.length);
            boolean whole = tokens[at].matches("[0-9]+");
            tokens[at] = whole ? "" + draw.nextInt(draw.nextInt(2) == 0 ? 34 : 1010) : others[draw.nextInt(others.length)];
        }
        return String.join(" ", tokens);
    }
}
