/** Buses whose passes and runs were worked out by hand from the document. */
final class Buses {
    /** One slot apart, so that in pass 2 one dip is seen. */
    static final String TWO = "bus gate 1 filter 0 window 5;board a slot 0 code 5 rank 2;board b slot 1 code 7 rank 2";

    /** Two slots apart behind a slower gate and a filter. */
    static final String LATE = "bus gate 2 filter 1 window 12;board a slot 2 code 3 rank 1;board b slot 4 code 4 rank 6";

    /** A third one of a greater rank. */
    static final String THREE = TWO + ";board c slot 4 code 1 rank 6";

    private Buses() {
    }

    /** A text of boards a, b, .. that have these slots, codes and ranks. */
    static String text(int gate, int filter, int window, int... slotCodeRank) {
        StringBuilder text = new StringBuilder();
        text.append("bus gate ").append(gate).append(" filter ").append(filter).append(" window ").append(window);
        for (int at = 0; at + 2 < slotCodeRank.length; at += 3) {
            text.append(";board ").append((char) ('a' + at / 3)).append(" slot ").append(slotCodeRank[at]);
            text.append(" code ").append(slotCodeRank[at + 1]).append(" rank ").append(slotCodeRank[at + 2]);
        }
        return text.toString();
    }

    /**
     * A run in which all sorts of things are the case: a is MASTER, b ELECT, an ARBITRATION of b and c
     * goes on, c WAITS for a, a LINE is BROKEN, one was REFUSED, asks are to come, something else is
     * kept, and THE TAPE has 40 blanks.
     */
    static OpenLines rich() {
        OpenLines x = Texts.made(THREE + ";ask 1 a 50;ask 30 b 3;ask 300 c 9;ask 300 a 9");
        x.ticks(20);
        x.keep();
        x.ticks(22);
        x.ask(1, 5);
        x.ask(2, 4);
        x.ticks(3);
        x.waits(2, 0);
        x.stick(1, 2);
        Texts.feed(x, " ".repeat(40));
        return x;
    }

    /** All that calls can tell of a bus of few boards, what is kept last: some 300 calls. */
    static String print(OpenLines x) {
        StringBuilder text = new StringBuilder(state(x));
        text.append('|').append(x.fault());
        for (int i : new int[] {1, 2, 15}) {
            for (int what = 0; what < 6; what++) {
                text.append(' ').append(x.log(i, what));
            }
        }
        for (int i = 0; i < 64; i++) {
            text.append(' ').append(x.past(i));
        }
        int boards = x.about(3);
        for (int b = 0; b < boards; b++) {
            text.append(' ').append(x.word(b, 1)).append(' ').append(x.word(b, 2)).append(' ').append(x.waiting(b));
            text.append(' ').append(x.till(b)).append(' ').append(x.seen(2, (1 << boards) - 1, b, 9));
        }
        for (int what = 0; what < 11; what++) {
            text.append(' ').append(x.will(60, what));
        }
        text.append('|').append(x.back());
        return text.append(state(x)).toString();
    }

    /** All of the run that can be asked for in few calls; trouble() is 0 behind it. */
    static String state(OpenLines x) {
        StringBuilder text = new StringBuilder();
        for (int what = 0; what < 4; what++) {
            text.append(x.size(what)).append(' ');
        }
        for (int what = 0; what < 11; what++) {
            text.append(x.now(what)).append(' ');
        }
        int boards = x.about(3);
        for (int b = 0; b < boards; b++) {
            for (int what = 0; what < 7; what++) {
                text.append(x.board(b, what)).append(' ');
            }
            for (int what = 0; what < 6; what++) {
                text.append(x.ledger(b, what)).append(' ');
            }
        }
        for (int what = 0; what < 6; what++) {
            text.append(x.log(0, what)).append(' ').append(x.about(what)).append(' ');
        }
        text.append(x.past(0)).append(' ').append(x.idle()).append(' ').append(x.longest());
        return text.toString();
    }
}
