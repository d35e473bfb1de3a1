import java.util.NoSuchElementException;

/** What the tests share: making books of texts, comparing answers, counting what is wrong. */
final class Probe {
    static final int NONE = -1;
    static final int THROWN = Integer.MIN_VALUE;
    private static int wrong = 0;
    private static int asked = 0;

    private Probe() {
    }

    static void same(String what, long got, long due) {
        asked++;
        if (got != due) {
            wrong++;
            System.out.println(what + " answered " + got + ", due is " + due);
        }
    }

    static void yes(String what, boolean got) {
        same(what, got ? 1 : 0, 1);
    }

    /** Ends the test: exit code 1 if something was wrong. */
    static void finish(String test) {
        System.out.println(test + ": " + asked + " answers, " + wrong + " wrong");
        if (wrong != 0 || asked == 0) {
            System.exit(1);
        }
    }

    static int[] fives(String text, int from) {
        int[] five = new int[5];
        for (int i = 0; i < 20; i++) {
            int b = from + i < text.length() ? text.charAt(from + i) & 255 : 0;
            five[i / 4] |= b << 24 - i % 4 * 8;
        }
        return five;
    }

    /** Puts a text of up to 840 bytes on the tape, which must be empty. */
    static void tape(AuthorityBook book, String text) {
        for (int i = 0; i < text.length(); i += 20) {
            int[] f = fives(text, i);
            book.feed(f[0], f[1], f[2], f[3], f[4]);
        }
        book.end(text.length());
    }

    static int text(AuthorityBook book, String text) {
        tape(book, text);
        return book.text();
    }

    static AuthorityBook book(String text) {
        AuthorityBook book = new AuthorityBook();
        int lines = text(book, text);
        if (lines < 0) {
            same("the text " + text, lines, 0);
        }
        return book;
    }

    static int power(AuthorityBook book, int power, int what) {
        try {
            return book.power(power, what);
        } catch (NoSuchElementException e) {
            return THROWN;
        }
    }

    static int act(AuthorityBook book, int act, int what) {
        try {
            return book.act(act, what);
        } catch (NoSuchElementException e) {
            return THROWN;
        }
    }

    static String letters(AuthorityBook book, int power) {
        StringBuilder line = new StringBuilder();
        for (int b = book.letter(power, 0); b != NONE && line.length() < 200; b = book.letter(power, line.length())) {
            line.append((char) b);
        }
        return line.toString();
    }

    static String times(String one, int n) {
        StringBuilder all = new StringBuilder();
        for (int i = 0; i < n; i++) {
            all.append(one);
        }
        return all.toString();
    }
}
