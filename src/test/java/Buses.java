/** Buses whose passes and runs were worked out by hand from the document. */
final class Buses {
    /** One slot apart, so that in pass 2 one dip is seen. */
    static final String TWO = "bus gate 1 filter 0 window 5;board a slot 0 code 5 rank 2;board b slot 1 code 7 rank 2";

    /** Two slots apart behind a slower gate and a filter. */
    static final String LATE = "bus gate 2 filter 1 window 12;board a slot 2 code 3 rank 1;board b slot 4 code 4 rank 6";

    /** A third one of a greater rank. */
    static final String THREE = TWO + ";board c slot 4 code 1 rank 6";

    private Buses() {
    }

    /** All of the run that can be asked for in few calls; trouble() is 0 behind it. */
    static String state(OpenLines x) {
        StringBuilder text = new StringBuilder();
        for (int what = 0; what < 4; what++) {
            text.append(x.size(what)).append(' ');
        }
        for (int what = 0; what < 11; what++) {
            text.append(x.now(what)).append(' ');
        }
        int boards = x.about(3);
        for (int b = 0; b < boards; b++) {
            for (int what = 0; what < 7; what++) {
                text.append(x.board(b, what)).append(' ');
            }
            for (int what = 0; what < 6; what++) {
                text.append(x.ledger(b, what)).append(' ');
            }
        }
        for (int what = 0; what < 6; what++) {
            text.append(x.log(0, what)).append(' ').append(x.about(what)).append(' ');
        }
        text.append(x.past(0)).append(' ').append(x.idle()).append(' ').append(x.longest());
        return text.toString();
    }
}
