import java.util.NoSuchElementException;

/** Puts texts on the tape. */
final class Texts {
    private Texts() {
    }

    /** Feeds a text, filled up with blanks to twenties of bytes: what the last feed answered. */
    static int feed(OpenLines x, String text) {
        int count = x.size(0);
        for (int at = 0; at < text.length(); at += 20) {
            count = x.feed(four(text, at), four(text, at + 4), four(text, at + 8), four(text, at + 12),
                    four(text, at + 16));
        }
        return count;
    }

    static int four(String text, int at) {
        int number = 0;
        for (int i = at; i < at + 4; i++) {
            number = number << 8 | (i < text.length() ? text.charAt(i) & 255 : ' ');
        }
        return number;
    }

    /** Reads a text behind the blanks that the tape may have. */
    static int bus(OpenLines x, String text) {
        int blanks = x.size(0);
        feed(x, text);
        return x.bus(blanks + text.length());
    }

    /** What never() answers, -99 where it throws what the document names. */
    static int never(OpenLines x, int i) {
        try {
            return x.never(i);
        } catch (NoSuchElementException e) {
            return -99;
        }
    }

    static OpenLines made(String text) {
        OpenLines x = new OpenLines();
        if (bus(x, text) < 1) {
            throw new IllegalArgumentException("fault " + x.fault() + " at " + x.where() + " of " + text);
        }
        return x;
    }
}
