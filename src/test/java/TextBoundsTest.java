/** Each sentence about the tape, the text and its faults that names a boundary case: terms 1, promises 1 to 5. */
public final class TextBoundsTest {
    private static final Sheet SHEET = new Sheet("TextBoundsTest");
    private static final String[] LANGUAGE =
        {"factor", "band", "join", "base", "bound", "cap", "trust", "fleet", "risk", "seed"};
    private static final String[] ONCE = {"base", "bound", "cap", "trust", "fleet", "seed"};

    public static void main(String[] args) {
        newObject();
        feed();
        text();
        fault();
        named();
        tokens();
        factors();
        settings();
        risks();
        order();
        misplaced();
        tooMuch();
        toldAlready();
        untold();
        SHEET.end();
    }

    private static void due(long got, long want) {
        SHEET.due(got, want);
    }

    private static void newObject() {
        SHEET.promise(1);
        SHEET.sentence("No FACTORS, no RISKS; an empty TAPE.");
        RateOffice x = new RateOffice();
        due(x.count(0), 0);
        due(x.count(1), 0);
        due(x.count(5), 0);
        due(x.count(8), 0);
        due(x.text(1), -2);
        due(x.count(7), 0);
        due(x.undo(), -1);
        due(x.back(), -1);
    }

    private static void feed() {
        SHEET.promise(2);
        SHEET.sentence("Twenty bytes come behind the TAPE, four of each number, the highest first: how many it has");
        RateOffice x = new RateOffice();
        // "base 54321;trust 21;" and "bound 3;cap 12;" in one row
        due(x.feed(0x62617365, 0x20353433, 0x32313b74, 0x72757374, 0x2032313b), 20);
        due(x.feed(0x626f756e, 0x6420333b, 0x63617020, 0x31323b20, 0x20202020), 40);
        due(x.text(35), 4);
        due(x.count(2), 54321);
        due(x.count(9), 21);
        due(x.count(3), 3);
        due(x.count(4), 12);
        // each of the twenty is a byte of its own, those above 127 too: none of these is a token
        for (int i = 0; i < 20; i++) {
            for (int b : new int[] {0, 127, 128, 160, 255}) {
                int[] w = {0x20202020, 0x20202020, 0x20202020, 0x20202020, 0x20202020};
                int shift = 24 - 8 * (i % 4);
                w[i / 4] = w[i / 4] & ~(255 << shift) | b << shift;
                due(x.feed(w[0], w[1], w[2], w[3], w[4]), 20);
                due(x.text(20), -1);
                due(x.fault(0), 1);
                due(x.fault(1), i);
            }
        }

        SHEET.sentence("NONE, and none come, if it would have more than 900.");
        RateOffice y = new RateOffice();
        for (int i = 1; i <= 44; i++) {
            due(y.feed(0x20202020, 0x20202020, 0x0a0a0a0a, 0x20202020, 0x20202020), 20 * i);
        }
        due(y.feed(0x20202020, 0x20202020, 0x20202020, 0x20206361, 0x7020373b), 900);
        for (int i = 0; i < 3; i++) {
            due(y.feed(0x3f3f3f3f, 0x3f3f3f3f, 0x3f3f3f3f, 0x3f3f3f3f, 0x3f3f3f3f), -1);
            due(y.count(8), 900);
        }
        due(y.text(901), -2);
        due(y.text(900), 1);
        due(y.count(4), 7);
        due(y.feed(0, 0, 0, 0, 0), 20);
    }

    private static void text() {
        SHEET.promise(3);
        SHEET.sentence("The TAPE's first n bytes (it is empty then) are the TEXT");
        RateOffice x = new RateOffice();
        Desk.feedAll(x, "cap 7;base 5;???");
        due(x.text(6), 1);
        due(x.count(4), 7);
        due(x.count(2), 1000);
        due(x.count(8), 0);
        due(x.text(1), -2);
        Desk.feedAll(x, "cap 8;");
        due(x.text(0), 0);
        due(x.count(4), 250);
        due(x.count(8), 0);
        Desk.feedAll(x, "cap 8;base 0;");
        due(x.text(13), -1);
        due(x.count(8), 0);
        // what is left behind the first n doesn't come back
        due(Desk.feedAll(x, "cap 6;"), 20);
        due(x.text(20), 1);

        SHEET.sentence("(no IMAGE, nothing to undo)");
        RateOffice y = busy();
        due(y.count(7), 2);
        due(Desk.tell(y, ""), 0);
        due(y.count(7), 0);
        due(y.undo(), -1);
        due(y.back(), -1);
        // all that a text doesn't tell is as in a new object
        SHEET.same(Desk.picture(y), Desk.picture(new RateOffice()));
        Desk.tell(y, "factor b 3;factor a 2;risk 1 1 1 0 0;");
        due(y.margin(0, 0, 0), 10000);
        due(y.count(5), 5);
        due(y.factor(0, 1), 1000);
        due(y.factor(1, 2), 50000);

        SHEET.sentence("how many LINES");
        SHEET.right("", 0);
        SHEET.right(" \n", 0);
        SHEET.right("cap 1;", 1);
        SHEET.right("cap 1;\nbase 1;", 2);
        // as many as 900 bytes can have, of those that may stand more than once: 40 and 5
        SHEET.right(Desk.times(40, "risk 1 1 1;") + "base 1;cap 1;seed 1;trust 1;bound 1;", 45);

        SHEET.sentence("NONE with a FAULT, all else stays");
        SHEET.sameTrail(() -> {
            RateOffice z = busy();
            due(Desk.tell(z, "factor c 5;base 7;bound 1;cap 1;trust 1;fleet 1 1;seed 1;risk 9 9 9 0;cap 2;"), -1);
            return z;
        }, TextBoundsTest::busy);

        SHEET.sentence("-2, and the TAPE stays: there are not so many, n is below 0.");
        for (int n : new int[] {21, 22, 900, 901, Integer.MAX_VALUE, -1, -2, Integer.MIN_VALUE}) {
            SHEET.sameTrail(() -> {
                RateOffice u = fed();
                due(u.text(n), -2);
                due(u.count(8), 20);
                return u;
            }, TextBoundsTest::fed);
        }
        RateOffice full = new RateOffice();
        Desk.feedAll(full, "cap 7;              ");
        due(full.text(20), 1);
        due(new RateOffice().text(0), 0);
    }

    /** An office with an image, something to undo, and nothing as in a new one. */
    private static RateOffice busy() {
        RateOffice x = Desk.office("base 100;bound 20;cap 100;trust 2;fleet 3 100;seed 5;factor a 3;factor b 2;"
                + "band a 500 40000;join a 1;risk 1 200 100 0 0;risk 2 100 150 1 1;risk 3 300 400 2 0;");
        x.claims(2, 290);
        x.keep();
        x.round(1);
        return x;
    }

    private static RateOffice fed() {
        RateOffice x = busy();
        Desk.feedAll(x, "cap 7;");
        return x;
    }

    private static void fault() {
        SHEET.promise(4);
        SHEET.sentence("Of the latest text() that was not -2");
        RateOffice x = new RateOffice();
        due(Desk.tell(x, "cap 9;cap 9;"), -1);
        for (int n : new int[] {1, -1, Integer.MIN_VALUE, Integer.MAX_VALUE}) {
            due(x.text(n), -2);
            due(x.fault(0), 3);
            due(x.fault(1), 6);
        }
        due(Desk.tell(x, "band a"), -1);
        due(x.fault(0), 4);
        due(x.fault(1), 5);
        due(x.text(0), 0);
        due(x.fault(0), 0);
        due(x.fault(1), -1);
        due(x.text(3), -2);
        due(x.fault(0), 0);

        SHEET.sentence("what 0: its FAULT (0)");
        due(new RateOffice().fault(0), 0);
        due(Desk.office("cap 9;").fault(0), 0);

        SHEET.sentence("1: its place (NONE without)");
        due(new RateOffice().fault(1), -1);
        due(Desk.office("cap 9;").fault(1), -1);
        SHEET.fault("?", 1, 0);

        SHEET.sentence("NONE for another what.");
        Desk.tell(x, "cap 9;cap 9;");
        for (int what : new int[] {-1, 2, 3, Integer.MIN_VALUE, Integer.MAX_VALUE}) {
            due(x.fault(what), -1);
        }
    }

    private static void named() {
        SHEET.promise(5);
        SHEET.sentence("5 bits each (a is 1; the first one highest of six, 0 behind the last one): its number");
        RateOffice x = Desk.office("factor a 2;factor zzzzzz 2;factor abcdef 1;factor az 1;");
        due(x.named(1 << 25), 0);
        due(x.named(0b11010_11010_11010_11010_11010_11010), 1);
        due(x.named(0b00001_00010_00011_00100_00101_00110), 2);
        due(x.named(0b00001_11010_00000_00000_00000_00000), 3);

        SHEET.sentence("NONE: there is none such.");
        due(x.named(0), -1);
        due(x.named(1), -1);
        due(x.named(2 << 25), -1);
        due(x.named(1 << 25 | 1 << 20), -1);
        due(x.named(1 << 25 | 1), -1);
        due(x.named(1 << 25 | 1 << 30), -1);
        due(x.named(1 << 25 | 1 << 31), -1);
        due(x.named(-1), -1);
        due(x.named(Integer.MIN_VALUE), -1);
        due(x.named(Integer.MAX_VALUE), -1);
        due(x.named(Desk.letters("abcde")), -1);
        due(new RateOffice().named(0), -1);
        due(new RateOffice().named(1 << 25), -1);
        // names of a text that is gone
        Desk.tell(x, "factor b 2;");
        due(x.named(2 << 25), 0);
        due(x.named(1 << 25), -1);
        due(x.named(Desk.letters("az")), -1);
    }

    private static void tokens() {
        SHEET.terms(1);
        SHEET.sentence("A TEXT: { LINE ';' }");
        SHEET.right("", 0);
        SHEET.fault(";", 1, 0);
        SHEET.fault("cap 1;;", 1, 6);
        SHEET.fault("cap 1; ;", 1, 7);
        SHEET.fault("cap 1 base 1;", 1, 6);
        SHEET.fault("cap 1", 1, 5);

        SHEET.sentence("LINE: factor W N | band W N N | join W N | base N | bound N | cap N | trust N | fleet N N |"
                + " risk N N N N.. | seed N.");
        String[] lines = {"factor b 1", "band a 1 10000", "join a 0", "base 1", "bound 1", "cap 1", "trust 1", "fleet 1 1",
            "risk 1 1 1 1", "seed 1"};
        String factor = "factor a 2;";
        for (String line : lines) {
            SHEET.right(factor + line + ";", 2);
            // a token less, a token more
            int last = line.lastIndexOf(' ');
            SHEET.fault(factor + line.substring(0, last) + ";", 1, 11 + last);
            SHEET.fault(factor + line + " 1;", 1, 12 + line.length());
            SHEET.fault(factor + line + " a;", 1, 12 + line.length());
        }

        SHEET.sentence("Words: small letters in a row");
        SHEET.right("factor az 1;", 1);
        SHEET.fault("`", 1, 0);
        SHEET.fault("{", 1, 0);
        SHEET.fault("caP 1;", 1, 0);
        SHEET.fault("c ap 1;", 1, 0);
        SHEET.fault("factor a` 1;", 1, 8);
        SHEET.fault("factor z{ 1;", 1, 8);
        SHEET.fault("factor aA 1;", 1, 8);
        SHEET.fault("factor a b 1;", 1, 9);

        SHEET.sentence("W: one of 1 .. 6 letters, none of those of the language");
        SHEET.right("factor a 1;factor abcdef 1;band a 1 10000;band abcdef 1 10000;", 4);
        SHEET.fault("factor abcdefg 1;", 1, 7);
        SHEET.fault("factor a 1;band abcdefg 1 10000;", 1, 16);
        SHEET.fault("factor a 1;join abcdefghijklmnopqrstuvwxyz 0;", 1, 16);
        SHEET.fault("factor ;", 1, 7);
        for (String word : LANGUAGE) {
            SHEET.fault("factor " + word + " 1;", 1, 7);
            SHEET.fault("factor a 1;band " + word + " 1 10000;", 1, 16);
            SHEET.fault("factor a 1;join " + word + " 0;", 1, 16);
            // all but one letter of it, or one more, is a name
            String less = word.substring(0, word.length() - 1);
            SHEET.right("factor " + less + " 1;", 1);
            if (word.length() < 6) {
                SHEET.right("factor " + word + "s 1;", 1);
            } else {
                SHEET.fault("factor " + word + "s 1;", 1, 7);
            }
        }

        SHEET.sentence("N: digits");
        due(Desk.office("cap 0;").count(4), 0);
        due(Desk.office("base 98765;").count(2), 98765);
        due(Desk.office("base 43210;").count(2), 43210);
        SHEET.fault("cap /;", 1, 4);
        SHEET.fault("cap :;", 1, 4);
        SHEET.fault("cap -1;", 1, 4);
        SHEET.fault("cap +1;", 1, 4);
        SHEET.fault("cap 1.0;", 1, 5);
        SHEET.fault("cap 9/;", 1, 5);
        SHEET.fault("cap 0:;", 1, 5);
        SHEET.fault("cap 1 0;", 1, 6);

        SHEET.sentence("Blanks 10, 32.");
        SHEET.right("\n\n cap \n 7\n;\n ", 1);
        for (int b = 0; b < 256; b++) {
            boolean digit = b >= '0' && b <= '9';
            boolean letter = b >= 'a' && b <= 'z';
            if (b == 10 || b == 32) {
                SHEET.right("cap" + (char) b + "7;", 1);
                SHEET.right("" + (char) b, 0);
            } else {
                SHEET.fault("" + (char) b, 1, 0);
                if (!digit) {
                    SHEET.fault("cap" + (char) b + "7;", 1, letter ? 0 : 3);
                }
            }
        }
    }

    private static void factors() {
        SHEET.sentence("factor, at most 4: name, LEVELS 1 .. 6; numbered from 0 on as they come, LEVELS too");
        String four = "factor d 1;factor c 6;factor b 2;factor a 5;";
        RateOffice x = Desk.office(four);
        due(x.count(0), 4);
        due(x.named(Desk.letters("d")), 0);
        due(x.named(Desk.letters("a")), 3);
        int[] levels = {1, 6, 2, 5};
        for (int f = 0; f < 4; f++) {
            due(x.factor(f, 0), levels[f]);
            due(x.margin(f, 0, 1), 0);
            due(x.margin(f, levels[f] - 1, 1), levels[f] - 1);
            due(x.margin(f, levels[f], 1), -2000);
            due(x.margin(f, -1, 1), -2000);
        }
        due(Desk.thrown(x, 4, 0), 1);
        SHEET.fault(four + "factor e 1;", 2, 44);
        SHEET.fault("factor a 0;", 2, 9);
        SHEET.fault("factor a 7;", 2, 9);

        SHEET.sentence("ahead of all risk");
        SHEET.fault("risk 1 1 1;factor a 1;", 1, 11);
        SHEET.fault("factor a 1;risk 1 1 1 0;factor b 1;", 1, 24);
        // all else may stand behind one
        SHEET.right("factor a 2;risk 1 1 1 0;band a 1 10000;join a 0;base 1;bound 1;cap 1;trust 1;fleet 1 1;seed 1;"
                + "risk 1 1 1 1;", 11);

        SHEET.sentence("band: of a FACTOR LOW 1 .. 10000, HIGH 10000 .. 99999 (1000, 50000)");
        RateOffice y = Desk.office("factor a 1;factor b 1;factor c 1;band a 1 99999;band b 10000 10000;");
        int[][] bands = {{1, 99999}, {10000, 10000}, {1000, 50000}};
        for (int f = 0; f < 3; f++) {
            due(y.factor(f, 1), bands[f][0]);
            due(y.factor(f, 2), bands[f][1]);
        }
        SHEET.fault("factor a 1;band a 0 10000;", 2, 18);
        SHEET.fault("factor a 1;band a 10001 10001;", 2, 18);
        SHEET.fault("factor a 1;band a 1 9999;", 2, 20);
        SHEET.fault("factor a 1;band a 1 100000;", 2, 20);

        SHEET.sentence("join: of a FACTOR a LEVEL with the next one.");
        RateOffice z = Desk.office("factor a 6;factor b 6;join a 4;join b 0;");
        due(z.margin(0, 5, 1), 4);
        due(z.margin(0, 4, 2), 5);
        due(z.margin(0, 3, 2), 3);
        due(z.margin(1, 0, 2), 1);
        due(z.margin(1, 2, 1), 2);
        due(z.margin(1, 5, 1), 5);
        SHEET.right("factor a 2;join a 0;", 2);
        SHEET.fault("factor a 2;join a 1;", 2, 18);
    }

    private static void setting(String word, int low, int high, int without, int what) {
        due(Desk.office("").count(what), without);
        due(Desk.office(word + " " + low + ";").count(what), low);
        due(Desk.office(word + " " + high + ";").count(what), high);
        SHEET.fault(word + " " + (high + 1) + ";", 2, word.length() + 1);
        if (low > 0) {
            SHEET.fault(word + " " + (low - 1) + ";", 2, word.length() + 1);
        }
    }

    private static void settings() {
        SHEET.sentence("base: 1 .. 99999 (1000)");
        setting("base", 1, 99999, 1000, 2);
        SHEET.sentence("bound: 0 .. 999 (10)");
        setting("bound", 0, 999, 10, 3);
        SHEET.sentence("cap: 0 .. 999 (250)");
        setting("cap", 0, 999, 250, 4);
        SHEET.sentence("trust: 0 .. 999 (0)");
        setting("trust", 0, 999, 0, 9);

        SHEET.sentence("fleet: SIZE 1 .. 99, OFF 0 .. 500 (99, 0)");
        due(Desk.office("").count(10), 99);
        due(Desk.office("").count(11), 0);
        due(Desk.office("fleet 1 500;").count(10), 1);
        due(Desk.office("fleet 1 500;").count(11), 500);
        due(Desk.office("fleet 99 0;").count(10), 99);
        due(Desk.office("fleet 98 0;").count(11), 0);
        SHEET.fault("fleet 0 0;", 2, 6);
        SHEET.fault("fleet 100 0;", 2, 6);
        SHEET.fault("fleet 1 501;", 2, 8);

        SHEET.sentence("seed: 0 .. 99999 (0)");
        String rest = "base 100;factor a 3;risk 1 1 1 0;risk 1 1 1 1;risk 1 1 1 2;";
        for (int seed : new int[] {0, 1, 99998, 99999}) {
            RateOffice x = Desk.office("seed " + seed + ";" + rest);
            due(x.chance(-1, 7, 5000, 0, 0), x.chance(seed, 7, 5000, 0, 0));
        }
        RateOffice y = Desk.office(rest);
        due(y.chance(-1, 7, 5000, 0, 0), y.chance(0, 7, 5000, 0, 0));
        SHEET.holds(y.chance(0, 7, 5000, 0, 0) != y.chance(99999, 7, 5000, 0, 0), "all seeds draw the same");
        // what an earlier text told is gone
        due(Desk.tell(y, "seed 99999;" + rest), 6);
        due(y.chance(-1, 7, 5000, 0, 0), y.chance(99999, 7, 5000, 0, 0));
        due(Desk.tell(y, rest), 5);
        due(y.chance(-1, 7, 5000, 0, 0), y.chance(0, 7, 5000, 0, 0));
        SHEET.fault("seed 100000;", 2, 5);
    }

    private static void risks() {
        SHEET.sentence("risk, at most 40: EXPOSURE 1 .. 99, CLAIMS 0 .. 99999, OLD 1 .. 99999, a LEVEL of each FACTOR,"
                + " by numbers.");
        RateOffice x = Desk.office("factor a 6;factor b 1;factor c 3;risk 1 0 1 0 0 0;risk 99 99999 99999 5 0 2;");
        long[][] want = {{1, 0, 1, 0, 0, 0}, {99, 99999, 99999, 5, 0, 2}};
        for (int r = 0; r < 2; r++) {
            for (int i = 0; i < 6; i++) {
                due(x.of(r, i < 3 ? i : 3 + i), want[r][i]);
            }
        }
        due(Desk.office(Desk.times(40, "risk 1 1 1;")).count(1), 40);
        SHEET.fault(Desk.times(41, "risk 1 1 1;"), 2, 440);
        SHEET.fault("risk 0 1 1;", 2, 5);
        SHEET.fault("risk 100 1 1;", 2, 5);
        SHEET.fault("risk 1 100000 1;", 2, 7);
        SHEET.fault("risk 1 1 0;", 2, 9);
        SHEET.fault("risk 1 1 100000;", 2, 9);
        // as many levels as there are factors, no more, no less
        SHEET.right("risk 1 1 1;", 1);
        SHEET.fault("risk 1 1 1 0;", 1, 11);
        String four = "factor a 1;factor b 1;factor c 1;factor d 1;";
        SHEET.fault(four + "risk 1 1 1 0 0 0;", 1, 60);
        SHEET.right(four + "risk 1 1 1 0 0 0 0;", 5);
        SHEET.fault(four + "risk 1 1 1 0 0 0 0 0;", 1, 63);

        SHEET.sentence("RISKS are numbered from 0 on as they come.");
        RateOffice y = Desk.office("risk 3 1 1;cap 1;risk 2 1 1;risk 1 1 1;");
        due(y.of(0, 0), 3);
        due(y.of(1, 0), 2);
        due(y.of(2, 0), 1);
        due(y.of(3, 0), -999999999);
    }

    private static void order() {
        SHEET.sentence("FAULTS, the first along the text (of one place the least), with its place");
        SHEET.fault("cap 1000;?", 2, 4);
        SHEET.fault("?cap 1000;", 1, 0);
        SHEET.fault("cap 1;cap 1000 ?", 3, 6);
        SHEET.fault("band a 0 0;cap 1;cap 1;", 4, 5);
        SHEET.fault("factor a 1;factor a 9;", 3, 18);
        SHEET.fault("factor a 2;join a 0;join a 1;join a 0;", 2, 27);
        SHEET.fault("risk 0 100000 0;", 2, 5);
        SHEET.fault("fleet 0 501;", 2, 6);
        SHEET.fault("factor a 1;band a 0 0;", 2, 18);
        // a fifth one at its word, ahead of its name, which is told already, and of its LEVELS
        String four = "factor a 1;factor b 1;factor c 1;factor d 1;";
        SHEET.fault(four + "factor a 9;", 2, 44);
        SHEET.fault(four + "factor", 2, 44);
        SHEET.fault(Desk.times(40, "risk 1 1 1;") + "risk 0 0 0", 2, 440);
        // of one place: behind a risk (1), a fifth one (2)
        SHEET.fault(four + "risk 1 1 1 0 0 0 0;factor e 1;", 1, 63);
        // blanks are not its place
        SHEET.fault("cap 1; \n \n cap 2;", 3, 11);
        SHEET.fault("cap \n\n 1000;", 2, 7);
    }

    /** A text up to a place, and what must come there: w a name, n a number, ; the end of the line, l a line. */
    private static final String[][] UNTIL = {
        {"factor", "w"}, {"factor a", "n"}, {"factor a 2", ";"},
        {"factor a 2;band", "w"}, {"factor a 2;band a", "n"}, {"factor a 2;band a 1", "n"},
        {"factor a 2;band a 1 10000", ";"},
        {"factor a 2;join", "w"}, {"factor a 2;join a", "n"}, {"factor a 2;join a 0", ";"},
        {"base", "n"}, {"base 1", ";"}, {"bound", "n"}, {"bound 1", ";"}, {"cap", "n"}, {"cap 1", ";"},
        {"trust", "n"}, {"trust 1", ";"}, {"fleet", "n"}, {"fleet 1", "n"}, {"fleet 1 1", ";"},
        {"seed", "n"}, {"seed 1", ";"},
        {"risk", "n"}, {"risk 1", "n"}, {"risk 1 1", "n"}, {"risk 1 1 1", ";"},
        {"factor a 2;risk 1 1 1", "n"}, {"factor a 2;risk 1 1 1 0", ";"},
        {"factor a 2;factor b 2;risk 1 1 1 0", "n"}, {"factor a 2;factor b 2;risk 1 1 1 0 0", ";"},
    };

    private static void misplaced() {
        SHEET.sentence("1 a TOKEN that is none (a word of more than 6 letters that isn't of the language, too)");
        for (String[] u : UNTIL) {
            for (String none : new String[] {"?", "A", "\t", "\0", ",", "-1", "abcdefg", "factors", "risksrisks"}) {
                SHEET.fault(u[0] + " " + none + " ", 1, u[0].length() + 1);
            }
        }
        for (String none : new String[] {"?", "A", "\t", "\r", "" + (char) 233, "abcdefg", "factors", "riskrisk"}) {
            SHEET.fault(none, 1, 0);
            SHEET.fault("cap 1;" + none, 1, 6);
        }

        SHEET.sentence("or can't stand there (the length, if more must come; factor behind a risk)");
        for (String[] u : UNTIL) {
            for (String blanks : new String[] {"", " ", "\n", " \n "}) {
                SHEET.fault(u[0] + blanks, 1, u[0].length() + blanks.length());
            }
            for (String[] token : new String[][] {{"x", "w"}, {"7", "n"}, {";", ";"}, {"cap", "l"}, {"factor", "l"}}) {
                if (!token[1].equals(u[1])) {
                    SHEET.fault(u[0] + " " + token[0] + " ", 1, u[0].length() + 1);
                }
            }
        }
        for (String token : new String[] {"x", "7", ";"}) {
            SHEET.fault(token, 1, 0);
            SHEET.fault("cap 1; " + token, 1, 7);
        }
        SHEET.fault("risk 1 1 1;factor a 1;", 1, 11);
        SHEET.fault("risk 1 1 1;factor", 1, 11);
        // more bytes on the tape than the text has are none of it: "base 5", "bas", "cap 999"
        cut("cap 1;base 55;", 12, 1, 12);
        cut("cap 1;base 55;", 9, 1, 6);
        cut("cap 9999;", 7, 1, 7);
        // as long as a tape can be, to its last byte
        String blanks = Desk.times(896, " ");
        cut(blanks + "cap ", 900, 1, 900);
        cut(blanks + " cap", 900, 1, 900);
        cut(blanks + "caps", 900, 1, 896);
        cut(blanks + "cap1", 900, 1, 900);
        cut(blanks.substring(1) + "cap1;", 900, 0, -1);
        // as many tokens as there can be
        for (String token : new String[] {";", "?", "7 ", "a "}) {
            cut(Desk.times(900 / token.length(), token), 900, 1, 0);
        }
        cut("cap 1" + Desk.times(895, ";"), 900, 1, 6);
    }

    /** The first n bytes of what is fed are the text, with a fault or (0, -1) without. */
    private static void cut(String fed, int n, int kind, int place) {
        RateOffice x = new RateOffice();
        Desk.feedAll(x, fed);
        due(x.text(n), kind == 0 ? 1 : -1);
        due(x.fault(0), kind);
        due(x.fault(1), place);
    }

    private static void beyond(String until, int low, int high, String behind) {
        for (String n : new String[] {String.valueOf(high + 1), "100000", "2147483648", "4294967297", "4294967296",
            "18446744073709551616", "18446744073709551617", "1000000000000000000000000000000"}) {
            SHEET.fault(until + n + behind, 2, until.length());
        }
        SHEET.right(until + high + behind, lines(until + behind));
        SHEET.right(until + low + behind, lines(until + behind));
        // digits that are zeros make no number greater
        SHEET.right(until + "0000000000000000000000" + high + behind, lines(until + behind));
        if (low > 0) {
            SHEET.fault(until + (low - 1) + behind, 2, until.length());
            SHEET.fault(until + "0" + behind, 2, until.length());
            SHEET.fault(until + "000000000000" + behind, 2, until.length());
        }
    }

    private static int lines(String text) {
        return text.length() - text.replace(";", "").length();
    }

    private static void tooMuch() {
        SHEET.sentence("2 too much (at it): a number beyond what is said, a fifth factor, a 41st risk (at the word of the"
                + " LINE), a LEVEL that isn't there (for join: the last one, too).");
        beyond("factor a ", 1, 6, ";");
        beyond("factor a 2;band a ", 1, 10000, " 10000;");
        beyond("factor a 2;band a 1 ", 10000, 99999, ";");
        beyond("base ", 1, 99999, ";");
        beyond("bound ", 0, 999, ";");
        beyond("cap ", 0, 999, ";");
        beyond("trust ", 0, 999, ";");
        beyond("fleet ", 1, 99, " 0;");
        beyond("fleet 1 ", 0, 500, ";");
        beyond("seed ", 0, 99999, ";");
        beyond("risk ", 1, 99, " 1 1;");
        beyond("risk 1 ", 0, 99999, " 1;");
        beyond("risk 1 1 ", 1, 99999, ";");
        for (int levels = 1; levels <= 6; levels++) {
            beyond("factor a " + levels + ";risk 1 1 1 ", 0, levels - 1, ";");
            beyond("factor b 6;factor a " + levels + ";factor c 6;risk 1 1 1 5 ", 0, levels - 1, " 5;");
            if (levels > 1) {
                beyond("factor a " + levels + ";factor b 6;join a ", 0, levels - 2, ";");
            }
            SHEET.fault("factor a " + levels + ";join a " + (levels - 1) + ";", 2, 18);
        }
        SHEET.fault("factor a 1;factor b 1;factor c 1;factor d 1;  factor e 1;", 2, 46);
        SHEET.fault(Desk.times(40, "risk 1 1 1;") + "cap 1;\nrisk 1 1 1;", 2, 447);
        // 41 by four factors, too: the risks take 19 bytes each
        SHEET.right("factor a 1;factor b 1;" + Desk.times(40, "risk 1 1 1 0 0;"), 42);
        SHEET.fault("factor a 1;factor b 1;" + Desk.times(41, "risk 1 1 1 0 0;"), 2, 622);
    }

    private static void toldAlready() {
        SHEET.sentence("3 told already: a name (at W), band of a FACTOR (at W), join of a LEVEL (at the LEVEL), base,"
                + " bound, cap, trust, fleet, seed (at the word).");
        SHEET.fault("factor a 1;factor a 1;", 3, 18);
        SHEET.fault("factor abcdef 1;factor b 1;factor abcdef 1;", 3, 34);
        SHEET.right("factor a 1;factor aa 1;factor b 1;factor aaaaaa 1;", 4);
        SHEET.right("factor abcdef 1;factor abcde 1;factor abcdeg 1;", 3);
        SHEET.fault("factor a 2;band a 1 10000;band a 2 10001;", 3, 31);
        for (int f = 0; f < 4; f++) {
            String four = "factor a 6;factor b 6;factor c 6;factor d 6;";
            String bands = "band a 1 10000;band b 1 10000;band c 1 10000;band d 1 10000;";
            char name = "abcd".charAt(f);
            SHEET.right(four + bands, 8);
            SHEET.fault(four + bands + "band " + name + " 1 10000;", 3, 109);
            for (int l = 0; l < 5; l++) {
                String joins = "join " + name + " 0;join " + name + " 1;join " + name + " 2;join " + name + " 3;"
                        + "join " + name + " 4;";
                SHEET.right(four + joins, 9);
                SHEET.fault(four + joins + "join " + name + " " + l + ";", 3, 96);
                // as much told of another one is none of its own
                char other = "abcd".charAt((f + 1) % 4);
                SHEET.right(four + "join " + other + " " + l + ";join " + name + " " + l + ";", 6);
            }
        }
        for (String word : ONCE) {
            String line = word + (word.equals("fleet") ? " 1 1;" : " 1;");
            SHEET.fault(line + line, 3, line.length());
            SHEET.fault(line + word + " ?", 3, line.length());
            SHEET.fault(line + "risk 1 1 1;" + word + " 100000;", 3, line.length() + 11);
            for (String other : ONCE) {
                if (!other.equals(word)) {
                    SHEET.right(line + other + (other.equals("fleet") ? " 1 1;" : " 1;"), 2);
                }
            }
        }
        // what an earlier text told is not told
        RateOffice x = Desk.office("factor a 2;band a 1 10000;join a 0;base 1;bound 1;cap 1;trust 1;fleet 1 1;seed 1;");
        due(Desk.tell(x, "factor a 2;band a 1 10000;join a 0;base 1;bound 1;cap 1;trust 1;fleet 1 1;seed 1;"), 9);
    }

    private static void untold() {
        SHEET.sentence("4 a FACTOR that isn't told ahead (at W).");
        SHEET.fault("band a 1 10000;", 4, 5);
        SHEET.fault("join a 0;", 4, 5);
        SHEET.fault("band a 1 10000;factor a 2;", 4, 5);
        SHEET.fault("join a 0;factor a 2;", 4, 5);
        SHEET.fault("factor a 2;band b 1 10000;", 4, 16);
        SHEET.fault("factor a 2;join aa 0;", 4, 16);
        SHEET.fault("factor abcdef 2;join abcde 0;", 4, 21);
        SHEET.fault("factor abcde 2;join  abcdef 0;", 4, 21);
        SHEET.fault("band a", 4, 5);
        SHEET.fault("join a ?", 4, 5);
        // a factor of the text ahead is not told in this one
        RateOffice x = Desk.office("factor a 2;");
        due(Desk.tell(x, "join a 0;"), -1);
        due(x.fault(0), 4);
        due(x.fault(1), 5);
    }
}
