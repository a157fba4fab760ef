import java.util.ArrayList;
import java.util.List;

/**
 * A pass by the very words of the document's part II, line by line and tick by tick up to 400,
 * with no thought for speed. It is written apart from OpenLines so that each can judge the other.
 */
final class ModelPass {
    static final int LAST = 400;

    record Dip(int board, int line, int tick, int length) {
    }

    final int[] slots;
    final int[] words;
    final int set;
    final int gate;
    final int filter;
    final int[] lines;
    final boolean[][][] drives;
    final boolean[][][] seen;
    final int[][] withdrawn;
    final List<Dip> dips = new ArrayList<>();

    ModelPass(int[] slots, int[] words, int set, int gate, int filter, int[] lines) {
        this.slots = slots;
        this.words = words;
        this.set = set;
        this.gate = gate;
        this.filter = filter;
        this.lines = lines;
        drives = new boolean[slots.length][LAST + 1][6];
        seen = new boolean[slots.length][LAST + 1][6];
        withdrawn = new int[slots.length][LAST + 1];
        for (int t = 0; t <= LAST; t++) {
            for (int b = 0; b < slots.length; b++) {
                for (int l = 0; l < 6; l++) {
                    drives[b][t][l] = drivesNow(b, t, l);
                }
            }
            findDips(t);
            for (int b = 0; b < slots.length; b++) {
                for (int l = 0; l < 6; l++) {
                    seen[b][t][l] = seesNow(b, t, l);
                }
                withdrawn[b][t] = withdrawnNow(b, t);
            }
        }
    }

    boolean contends(int b) {
        return (set & 1 << b) != 0;
    }

    boolean wordHas(int b, int l) {
        return (words[b] & 1 << l) != 0;
    }

    private boolean drivesNow(int b, int t, int l) {
        if (!contends(b) || !wordHas(b, l)) {
            return false;
        }
        return t < gate || withdrawn[b][t - gate] == -2 || l > withdrawn[b][t - gate];
    }

    private void findDips(int t) {
        for (int b = 0; t > 0 && b < slots.length; b++) {
            for (int l = 0; l < 6; l++) {
                if (drives[b][t - 1][l] && !drives[b][t][l]) {
                    int nearest = 99;
                    for (int c = 0; c < slots.length; c++) {
                        if (c != b && drives[c][t][l]) {
                            nearest = Math.min(nearest, Math.abs(slots[b] - slots[c]));
                        }
                    }
                    if (nearest < 99) {
                        dips.add(new Dip(b, l, t, 2 * nearest));
                    }
                }
            }
        }
    }

    private boolean seesNow(int b, int t, int l) {
        if (lines[l] == 1 || drives[b][t][l]) {
            return true;
        }
        if (lines[l] == 2) {
            return false;
        }
        for (Dip dip : dips) {
            int from = dip.tick() + Math.abs(slots[b] - slots[dip.board()]);
            if (dip.line() == l && t >= from && t < from + dip.length()) {
                return false;
            }
        }
        for (int c = 0; c < slots.length; c++) {
            int then = t - Math.abs(slots[b] - slots[c]);
            if (then >= 0 && drives[c][then][l]) {
                return true;
            }
        }
        return false;
    }

    boolean takes(int b, int t, int l) {
        for (int s = t; s >= 0 && s >= t - filter; s--) {
            if (seen[b][s][l]) {
                return true;
            }
        }
        return false;
    }

    private int withdrawnNow(int b, int t) {
        for (int l = 5; contends(b) && l >= 0; l--) {
            if (takes(b, t, l) && !wordHas(b, l)) {
                return l;
            }
        }
        return -2;
    }

    int drivesBits(int b, int t) {
        return bits(drives[b][t]);
    }

    int seenBits(int b, int t) {
        return bits(seen[b][t]);
    }

    int takenBits(int b, int t) {
        boolean[] row = new boolean[6];
        for (int l = 0; l < 6; l++) {
            row[l] = takes(b, t, l);
        }
        return bits(row);
    }

    private static int bits(boolean[] row) {
        int number = 0;
        for (int l = 0; l < row.length; l++) {
            number += row[l] ? 1 << l : 0;
        }
        return number;
    }

    int winners(int t) {
        int number = 0;
        for (int b = 0; b < slots.length; b++) {
            number += contends(b) && withdrawn[b][t] == -2 ? 1 << b : 0;
        }
        return number;
    }

    int right() {
        int greatest = -1;
        for (int b = 0; b < slots.length; b++) {
            greatest = contends(b) ? Math.max(greatest, words[b]) : greatest;
        }
        int number = 0;
        for (int b = 0; b < slots.length; b++) {
            number += contends(b) && words[b] == greatest ? 1 << b : 0;
        }
        return number;
    }

    int settles() {
        for (int from = 0; from < LAST; from++) {
            boolean same = true;
            for (int t = from; same && t <= LAST; t++) {
                for (int b = 0; b < slots.length; b++) {
                    same &= drivesBits(b, t) == drivesBits(b, from);
                }
            }
            if (same) {
                return from;
            }
        }
        return LAST;
    }

    boolean rightFrom(int from) {
        for (int t = from; t <= LAST; t++) {
            if (winners(t) != right()) {
                return false;
            }
        }
        return true;
    }

    int sure() {
        for (int from = 0; from <= LAST; from++) {
            if (rightFrom(from)) {
                return from;
            }
        }
        return -2;
    }

    boolean faulty(int t) {
        for (int b = 0; b < slots.length; b++) {
            if (Integer.bitCount(takenBits(b, t)) % 2 == 0) {
                return true;
            }
        }
        return false;
    }

    int edges(int b, int l) {
        int count = 0;
        for (int t = 0; t < LAST; t++) {
            count += seen[b][t][l] != seen[b][t + 1][l] ? 1 : 0;
        }
        return count;
    }
}
