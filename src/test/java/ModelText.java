import java.util.ArrayList;
import java.util.List;

/** Reads the text of a bus by the document's part I, from a list of tokens and forms of lines. */
final class ModelText {
    record Token(char kind, String text, int place) {
    }

    record Board(String name, int slot, int code, int rank) {
    }

    record Ask(int time, int board, int ticks) {
    }

    static final class Fault extends Exception {
        private static final long serialVersionUID = 1L;
        final int number;
        final int place;

        Fault(int number, int place) {
            this.number = number;
            this.place = place;
        }
    }

    int[] head;
    final List<Board> boards = new ArrayList<>();
    final List<Ask> asks = new ArrayList<>();
    private final List<Token> tokens = new ArrayList<>();
    private int next;

    ModelText(String text) throws Fault {
        split(text);
        do {
            line();
        } while (expect(tokens.get(next).kind() == '.' ? '.' : ';').kind() == ';');
        if (boards.isEmpty()) {
            throw new Fault(6, text.length());
        }
    }

    private void split(String text) {
        int at = 0;
        while (at < text.length()) {
            int from = at;
            char c = text.charAt(at);
            if (c >= 'a' && c <= 'z') {
                while (at < text.length() && text.charAt(at) >= 'a' && text.charAt(at) <= 'z') {
                    at++;
                }
                tokens.add(new Token(at - from > 6 ? '?' : 'w', text.substring(from, at), from));
            } else if (c >= '0' && c <= '9') {
                while (at < text.length() && text.charAt(at) >= '0' && text.charAt(at) <= '9') {
                    at++;
                }
                tokens.add(new Token(at - from > 3 ? '?' : 'n', text.substring(from, at), from));
            } else {
                at++;
                if (c != ' ') {
                    tokens.add(new Token(c == ';' ? ';' : '?', "", from));
                }
            }
        }
        tokens.add(new Token('.', "", text.length()));
    }

    private Token expect(char kind) throws Fault {
        Token token = tokens.get(next);
        if (token.kind() != kind) {
            throw new Fault(1, token.place());
        }
        next++;
        return token;
    }

    private void literal(String word) throws Fault {
        Token token = expect('w');
        if (!token.text().equals(word)) {
            throw new Fault(1, token.place());
        }
    }

    private Token name() throws Fault {
        Token token = expect('w');
        if (List.of("bus", "board", "ask").contains(token.text())) {
            throw new Fault(1, token.place());
        }
        return token;
    }

    private int whole(int least, int most) throws Fault {
        Token token = expect('n');
        int number = Integer.parseInt(token.text());
        if (number < least || number > most) {
            throw new Fault(4, token.place());
        }
        return number;
    }

    private int placeBehind() {
        return tokens.get(next - 1).place();
    }

    private void line() throws Fault {
        Token first = expect('w');
        switch (first.text()) {
            case "bus" -> {
                if (head != null) {
                    throw new Fault(3, first.place());
                }
                head = new int[3];
                literal("gate");
                head[0] = whole(1, 3);
                literal("filter");
                head[1] = whole(0, 20);
                literal("window");
                head[2] = whole(1, 200);
            }
            case "board" -> boardLine(first);
            case "ask" -> askLine(first);
            default -> throw new Fault(1, first.place());
        }
    }

    private void room(Token first, int count, int most) throws Fault {
        if (head == null) {
            throw new Fault(6, first.place());
        }
        if (count == most) {
            throw new Fault(5, first.place());
        }
    }

    private void again(boolean told) throws Fault {
        if (told) {
            throw new Fault(3, placeBehind());
        }
    }

    private void boardLine(Token first) throws Fault {
        room(first, boards.size(), 6);
        String name = name().text();
        again(boards.stream().anyMatch(b -> b.name().equals(name)));
        literal("slot");
        int slot = whole(0, 9);
        again(boards.stream().anyMatch(b -> b.slot() == slot));
        literal("code");
        int code = whole(1, 31);
        again(boards.stream().anyMatch(b -> b.code() == code));
        literal("rank");
        boards.add(new Board(name, slot, code, whole(0, 7)));
    }

    private void askLine(Token first) throws Fault {
        room(first, asks.size(), 12);
        int time = whole(asks.isEmpty() ? 1 : asks.get(asks.size() - 1).time(), 999);
        String name = name().text();
        int board = -1;
        for (int b = 0; b < boards.size(); b++) {
            board = boards.get(b).name().equals(name) ? b : board;
        }
        if (board < 0) {
            throw new Fault(2, placeBehind());
        }
        asks.add(new Ask(time, board, whole(1, 99)));
    }
}
