import java.util.NoSuchElementException;

/** What the tests need to make an office from a text, and to see all that it answers. */
final class Desk {
    private Desk() {
    }

    /** The whole text onto the tape, blanks behind it: the last answer of feed(). */
    static int feedAll(RateOffice x, String text) {
        int length = 0;
        for (int i = 0; i < text.length(); i += 20) {
            int[] w = new int[5];
            for (int k = 0; k < 20; k++) {
                int c = i + k < text.length() ? text.charAt(i + k) : ' ';
                w[k / 4] = w[k / 4] << 8 | c;
            }
            length = x.feed(w[0], w[1], w[2], w[3], w[4]);
        }
        return length;
    }

    static int tell(RateOffice x, String text) {
        feedAll(x, text);
        return x.text(text.length());
    }

    static RateOffice office(String text) {
        RateOffice x = new RateOffice();
        if (tell(x, text) < 0) {
            throw new IllegalArgumentException(text);
        }
        return x;
    }

    static String times(int n, String line) {
        StringBuilder s = new StringBuilder();
        for (int i = 0; i < n; i++) {
            s.append(line);
        }
        return s.toString();
    }

    static int letters(String name) {
        int v = 0;
        for (int i = 0; i < 6; i++) {
            v = v * 32 + (i < name.length() ? name.charAt(i) - 'a' + 1 : 0);
        }
        return v;
    }

    /** 0: nothing is thrown, 1: IndexOutOfBoundsException itself, 2: NoSuchElementException itself, 3: another. */
    static int thrown(RateOffice x, int factor, int what) {
        try {
            x.factor(factor, what);
            return 0;
        } catch (RuntimeException e) {
            return e.getClass() == IndexOutOfBoundsException.class ? 1
                    : e.getClass() == NoSuchElementException.class ? 2 : 3;
        }
    }

    /**
     * All that an office holds, but for its tape and what can be undone. It takes some 100 calls of the 512 that an
     * object is good for, more with many risks.
     */
    static String picture(RateOffice x) {
        StringBuilder s = new StringBuilder();
        for (int what : new int[] {0, 1, 2, 3, 4, 5, 6, 9, 10, 11}) {
            s.append(x.count(what)).append(' ');
        }
        for (int what = 0; what < 6; what++) {
            s.append(x.all(what)).append(' ');
        }
        int factors = x.count(0);
        for (int f = 0; f < factors; f++) {
            addFactor(s, x, f);
        }
        int risks = x.count(1);
        for (int r = 0; r < risks; r++) {
            s.append("\nrisk ").append(r).append(':');
            // CHANGE, what 5, is no more than CAPPED and OLD.
            for (int what = 0; what < 6 + factors; what++) {
                s.append(' ').append(what == 5 ? 0 : x.of(r, what));
            }
        }
        // What a text alone sets and nothing else shows: the seed.
        return s.append("\nchance: ").append(x.chance(-1, 5, 500, 0, 0)).toString();
    }

    private static void addFactor(StringBuilder s, RateOffice x, int factor) {
        int levels = x.factor(factor, 0);
        s.append("\nfactor ").append(factor).append(": ").append(levels);
        for (int what = 1; what < 5; what++) {
            s.append(' ').append(x.factor(factor, what));
        }
        for (int l = 0; l < levels; l++) {
            s.append("\nlevel ").append(l).append(':');
            for (int what = 0; what < 8; what++) {
                s.append(' ').append(x.margin(factor, l, what));
            }
        }
    }
}
