import java.util.Arrays;

/** For each promise of the document, by its number: ordinary calls, the edges it names, wrong inputs. */
public final class PromisesTest {
    private static int wrong = 0;
    private static int promise = 0;
    private static int row = 0;

    private static void due(long got, long want) {
        row++;
        if (got != want) {
            wrong++;
            System.out.println("promise " + promise + ", row " + row + ": answered " + got + ", due is " + want
                    + " (line " + Thread.currentThread().getStackTrace()[2].getLineNumber() + ")");
        }
    }

    private static void begin(int number) {
        promise = number;
        row = 0;
    }

    private static void fault(String text, int kind, int place) {
        RateOffice x = new RateOffice();
        due(Desk.tell(x, text), -1);
        due(x.fault(0), kind);
        due(x.fault(1), place);
    }

    private static void right(String text, int lines) {
        RateOffice x = new RateOffice();
        due(Desk.tell(x, text), lines);
        due(x.fault(0), 0);
        due(x.fault(1), -1);
    }

    // Two factors, the third level of b empty; premiums 100, 100, 200.
    private static final String TWO = "base 100;bound 50;factor a 2;factor b 3;band b 5000 20000;"
            + "risk 1 200 100 0 0;risk 1 100 100 1 0;risk 2 100 200 0 1;";

    // Premiums 100, 100, 200, held by 100 thousandths of 100, 200, 100.
    private static final String CAPS = "base 100;cap 100;factor a 1;risk 1 300 100 0;risk 1 100 200 0;risk 2 0 100 0;";

    // Premiums 270 (300 less 30) and 200.
    private static final String FLEET = "base 100;factor a 2;fleet 3 100;risk 3 300 100 0;risk 2 100 100 1;";

    public static void main(String[] args) {
        newObject();
        feed();
        text();
        textFaults();
        named();
        turn();
        round();
        rebaseAndLevel();
        relativityAndClaims();
        riskAndDrop();
        join();
        settings();
        factor();
        margin();
        ofAndAll();
        fitted();
        capping();
        shareAndEnds();
        stepsAndSwings();
        ratioAndWorst();
        without();
        quoteAndKinds();
        chance();
        undoAndImages();
        count();
        System.out.println(wrong == 0 ? "PromisesTest: all answers are as due"
                : "PromisesTest: " + wrong + " answers are not as due");
        if (wrong != 0) {
            System.exit(1);
        }
    }

    private static void newObject() {
        begin(1);
        RateOffice x = new RateOffice();
        int[] want = {0, 0, 1000, 10, 250, 0, 0, 0, 0, 0, 99, 0};
        for (int what = 0; what < want.length; what++) {
            due(x.count(what), want[what]);
        }
        due(x.fault(0), 0);
        due(x.fault(1), -1);
        due(RateOffice.NONE, -1);
        due(x.back(), -1);
        due(x.undo(), -1);
    }

    private static void feed() {
        begin(2);
        RateOffice x = new RateOffice();
        for (int i = 1; i <= 45; i++) {
            due(x.feed(0, -1, 1, Integer.MIN_VALUE, i), 20 * i);
        }
        due(x.feed(1, 2, 3, 4, 5), -1);
        due(x.count(8), 900);
        due(x.text(901), -2);
        due(x.count(8), 900);
        due(x.text(900), -1);
        due(x.count(8), 0);
        // "cap 7;" by its bytes, the highest of each number first
        due(x.feed(0x63617020, 0x373b2020, 0x20202020, 0x20202020, 0x20202020), 20);
        due(x.text(6), 1);
        due(x.count(4), 7);
    }

    private static void text() {
        begin(3);
        RateOffice x = new RateOffice();
        due(x.text(0), 0);
        due(x.text(-1), -2);
        due(x.text(1), -2);
        Desk.feedAll(x, "cap 7;base 5;");
        due(x.text(-1), -2);
        due(x.text(21), -2);
        due(x.count(8), 20);
        // only the first bytes count, the others go, too
        due(x.text(6), 1);
        due(x.count(8), 0);
        due(x.count(4), 7);
        due(x.count(2), 1000);
        x.keep();
        x.cap(8);
        // a fault leaves the image and what can be undone
        due(Desk.tell(x, "cap 9;trust 5;base 0;"), -1);
        due(x.count(4), 8);
        due(x.count(9), 0);
        due(x.count(7), 1);
        due(x.back(), 0);
        due(x.count(4), 7);
        x.cap(9);
        due(Desk.tell(x, "bound 3;"), 1);
        due(x.count(3), 3);
        due(x.count(4), 250);
        due(x.count(7), 0);
        due(x.back(), -1);
        // the empty text takes all back to what a new object has
        due(x.text(0), 0);
        due(x.count(3), 10);
        right("", 0);
        right(" \n \n", 0);
        right("factor abcdef 6;band abcdef 1 99999;join abcdef 4;base 99999;bound 999;cap 999;trust 999;"
                + "fleet 99 500;risk 99 99999 99999 5;seed 99999;", 10);
        right("factor a 1;band a 10000 10000;base 1;bound 0;cap 0;trust 0;fleet 1 0;risk 1 0 1 0;seed 0;", 9);
        right("factor\na2;risk1 1 1 1 ;band a 0010000 000010000\n;", 3);
        right("factor a 2;risk 1 1 1 0;join a 0;risk 1 1 1 1;band a 1 10000;", 5);
        right(Desk.times(40, "risk 1 1 1;"), 40);
        right("factor a 2;factor b 2;join a 0;join b 0;", 4);
        begin(4);
        RateOffice y = new RateOffice();
        due(Desk.tell(y, "cap 9;cap 9;"), -1);
        due(y.fault(0), 3);
        due(y.fault(1), 6);
        // -2 leaves the fault as it was
        due(y.text(5), -2);
        due(y.fault(0), 3);
        due(y.fault(1), 6);
        due(y.fault(2), -1);
        due(y.fault(-1), -1);
        due(Desk.tell(y, "cap 9;"), 1);
        due(y.fault(0), 0);
        due(y.fault(1), -1);
    }

    private static void textFaults() {
        begin(4);
        // 1: what is no token, or can't stand there
        fault("cap 9;?", 1, 6);
        fault("cap\t9;", 1, 3);
        fault("cap 9;" + (char) 233, 1, 6);
        fault("Cap 9;", 1, 0);
        fault("cap -9;", 1, 4);
        fault("cap 9", 1, 5);
        fault("cap 9  ", 1, 7);
        fault("cap", 1, 3);
        fault("cap ;", 1, 4);
        fault("cap 9 9;", 1, 6);
        fault("cap 9;;", 1, 6);
        fault("abc 9;", 1, 0);
        fault("7;", 1, 0);
        fault("abcdefg 9;", 1, 0);
        fault("factor abcdefg 2;", 1, 7);
        fault("factor cap 2;", 1, 7);
        fault("factor 2 2;", 1, 7);
        fault("factor a b;", 1, 9);
        fault("risk 1 1 1;factor a 2;", 1, 11);
        // behind a risk goes ahead of a fifth one, at the same place
        fault("factor a 1;factor b 1;factor c 1;factor d 1;risk 1 1 1 0 0 0 0;factor e 1;", 1, 63);
        fault("factor a 2;risk 1 1 1;", 1, 21);
        fault("factor a 2;risk 1 1 1 0 0;", 1, 24);
        fault("band 5 1 10000;", 1, 5);
        fault("band base 1 10000;", 1, 5);
        fault("factor a 2;band a 1;", 1, 19);
        fault("factor a 2;join a;", 1, 17);
        fault("fleet 5;", 1, 7);
        fault("factor ;", 1, 7);
        fault("factor a ;", 1, 9);
        fault("band ;", 1, 5);
        fault("join ;", 1, 5);
        fault("risk ;", 1, 5);
        fault("factor a 2;join a ;", 1, 18);
        fault("factor a 2;band a ;", 1, 18);
        // 2: too much, or too little
        fault("factor a 0;", 2, 9);
        fault("factor a 7;", 2, 9);
        fault("factor a 1;factor b 1;factor c 1;factor d 1;factor a 9;", 2, 44);
        fault(Desk.times(41, "risk 1 1 1;"), 2, 440);
        fault("factor a 2;band a 0 10000;", 2, 18);
        fault("factor a 2;band a 10001 10000;", 2, 18);
        fault("factor a 2;band a 1 9999;", 2, 20);
        fault("factor a 2;band a 1 100000;", 2, 20);
        fault("factor a 2;join a 1;", 2, 18);
        fault("factor a 1;join a 0;", 2, 18);
        fault("factor a 6;join a 31;", 2, 18);
        fault("base 0;", 2, 5);
        fault("base 100000;", 2, 5);
        fault("base 4294967297;", 2, 5);
        fault("base 18446744073709551617;", 2, 5);
        fault("bound 1000;", 2, 6);
        fault("cap 1000;", 2, 4);
        fault("trust 1000;", 2, 6);
        fault("fleet 0 0;", 2, 6);
        fault("fleet 100 0;", 2, 6);
        fault("fleet 1 501;", 2, 8);
        fault("risk 0 1 1;", 2, 5);
        fault("risk 100 1 1;", 2, 5);
        fault("risk 1 100000 1;", 2, 7);
        fault("risk 1 1 0;", 2, 9);
        fault("risk 1 1 100000;", 2, 9);
        fault("factor a 2;factor b 3;risk 1 1 1 1 3;", 2, 35);
        fault("seed 100000;", 2, 5);
        // 3: told already
        fault("factor a 2;factor a 2;", 3, 18);
        fault("factor a 2;band a 1 10000;band a 1 10000;", 3, 31);
        fault("factor a 2;join a 0;join a 0;", 3, 27);
        for (String word : Arrays.asList("base", "bound", "cap", "trust", "seed")) {
            fault(word + " 1;" + word + " 1;", 3, word.length() + 3);
        }
        fault("fleet 1 1;fleet", 3, 10);
        // 4: a factor that isn't told ahead
        fault("band a 1 10000;", 4, 5);
        fault("factor b 2;join a 0;", 4, 16);
        fault("factor b 2;join b 0;join ba 0;", 4, 25);
        // the first one along the text
        fault("cap 1000;cap ?", 2, 4);
        fault("? base 0;", 1, 0);
    }

    private static void named() {
        begin(5);
        RateOffice x = Desk.office("factor a 2;factor abcdef 2;factor z 1;factor zzzzzz 1;");
        due(x.named(Desk.letters("a")), 0);
        due(x.named(Desk.letters("abcdef")), 1);
        due(x.named(Desk.letters("z")), 2);
        due(x.named(Desk.letters("zzzzzz")), 3);
        due(x.named(Desk.letters("b")), -1);
        due(x.named(Desk.letters("abcde")), -1);
        due(x.named(1), -1);
        due(x.named(0), -1);
        due(x.named(-1), -1);
        due(x.named(Desk.letters("a") | 1 << 31), -1);
        due(new RateOffice().named(0), -1);
    }

    private static void turn() {
        begin(6);
        RateOffice x = Desk.office(TWO);
        due(x.turn(-1), -1);
        due(x.turn(2), -1);
        due(x.count(7), 0);
        due(x.turn(0), 0);
        due(x.count(7), 1);
        due(x.turn(1), 2);
        due(x.margin(1, 0, 0), 15000);
        due(x.margin(1, 1, 0), 5000);
        due(x.margin(1, 2, 0), 10000);
        // bands: 50 times as much as is paid, and nothing at all
        RateOffice b = Desk.office("base 1;factor a 2;risk 1 50 1 0;risk 1 0 1 1;");
        due(b.turn(0), 2);
        due(b.margin(0, 0, 0), 50000);
        due(b.margin(0, 1, 0), 1000);
        // ahead of its band it would be beyond an int: 99999 * 99999 by 9
        RateOffice big = Desk.office("base 1;factor a 1;band a 1 99999;risk 1 99999 1 0;");
        due(big.relativity(0, 0, 99999), 10000);
        due(big.turn(0), 0);
        due(big.margin(0, 0, 0), 99999);
        // premiums of 0: its relativity stays
        RateOffice nil = Desk.office("base 1;factor a 1;factor b 1;risk 1 9 1 0 0;");
        nil.relativity(0, 0, 9999);
        due(nil.all(1), 0);
        due(nil.turn(0), 0);
        due(nil.margin(0, 0, 0), 9999);
        // trust, downwards below 0, too: r 10000, v 5000 (9999), exposure 1, trust 2
        RateOffice t = Desk.office("base 1000;trust 2;factor a 3;risk 1 500 1 0;risk 1 1500 1 1;risk 1 999 1 2;");
        due(t.turn(0), 3);
        due(t.margin(0, 0, 0), 8333);
        due(t.margin(0, 1, 0), 11666);
        due(t.margin(0, 2, 0), 9996);
        // v is held by its band ahead of trust: v 1000, not 0: 10000 - 4500
        RateOffice h = Desk.office("trust 1;factor a 1;risk 1 0 1 0;");
        due(h.turn(0), 1);
        due(h.margin(0, 0, 0), 5500);
        // a class counts once
        RateOffice j = Desk.office("base 100;factor a 3;join a 0;risk 1 200 1 0;risk 1 200 1 1;risk 1 50 1 2;");
        due(j.turn(0), 2);
        due(j.margin(0, 0, 0), 20000);
        due(j.margin(0, 1, 0), 20000);
        due(j.margin(0, 2, 0), 5000);
        due(j.turn(0), 0);
    }

    private static void round() {
        begin(7);
        RateOffice x = Desk.office(TWO);
        due(x.round(0), -1);
        due(x.round(51), -1);
        due(x.round(-1), -1);
        due(x.count(7), 0);
        // a: 10000, 10000; b: 15000, 5000: margins 250 (300), 150 (100), 300 (300), 100 (100)
        due(x.round(1), 2);
        due(x.count(7), 1);
        due(x.margin(0, 0, 0), 10000);
        due(x.margin(1, 0, 0), 15000);
        // turns by numbers: the first takes the second's work into account
        RateOffice y = Desk.office(TWO);
        y.turn(0);
        y.turn(1);
        y.turn(0);
        y.turn(1);
        due(x.round(1), y.unbalanced());
        for (int l = 0; l < 3; l++) {
            due(x.margin(1, l, 0), y.margin(1, l, 0));
        }
        due(x.margin(0, 1, 0), y.margin(0, 1, 0));
        RateOffice z = new RateOffice();
        due(z.round(50), 0);
        due(z.count(7), 1);
    }

    private static void rebaseAndLevel() {
        begin(8);
        RateOffice x = Desk.office(FLEET);
        // 100 * 400 by 470
        due(x.rebase(), 85);
        due(x.count(2), 85);
        due(x.count(7), 1);
        due(new RateOffice().rebase(), 1000);
        RateOffice none = Desk.office("risk 1 0 1;");
        due(none.rebase(), 1);
        RateOffice most = Desk.office("base 1;risk 1 99999 1;risk 1 99999 1;risk 1 99999 1;");
        due(most.rebase(), 99999);
        RateOffice nil = Desk.office("base 1;factor a 1;risk 1 9 1 0;");
        nil.relativity(0, 0, 9999);
        due(nil.rebase(), 1);
        due(Desk.office("base 1;risk 1 9 1;").rebase(), 9);
        begin(9);
        RateOffice l = Desk.office("base 101;factor a 3;factor b 2;join a 0;risk 1 1 1 0 0;risk 2 1 1 1 1;risk 2 1 1 2 1;");
        l.relativity(0, 0, 12345);
        l.relativity(0, 2, 20000);
        l.relativity(1, 1, 5000);
        // a: the class of 0 and 1 has 3: 101 * 1.2345 = 124; b: level 1 has 4: 124 * 0.5 = 62
        due(l.level(), 62);
        due(l.margin(0, 1, 0), 10000);
        due(l.margin(0, 2, 0), 16200);
        due(l.margin(1, 0, 0), 20000);
        due(l.margin(1, 1, 0), 10000);
        due(l.count(7), 4);
        // bands: 50000 by 0.1 would be 500000; the first of two with as much
        RateOffice h = Desk.office("factor a 2;risk 1 1 1 0;risk 1 1 1 1;");
        h.relativity(0, 0, 1000);
        h.relativity(0, 1, 50000);
        due(h.level(), 100);
        due(h.margin(0, 0, 0), 10000);
        due(h.margin(0, 1, 0), 50000);
        RateOffice low = Desk.office("base 1;factor a 2;band a 9000 10000;risk 1 1 1 0;");
        low.relativity(0, 0, 9000);
        due(low.level(), 1);
        due(low.margin(0, 1, 0), 10000);
        // by the least relativity there is: 99999 by 10000, and 3 times 10000
        RateOffice least = Desk.office("base 99999;factor a 2;band a 1 99999;risk 2 1 1 0;risk 1 1 1 1;");
        least.relativity(0, 0, 1);
        least.relativity(0, 1, 3);
        due(least.level(), 9);
        due(least.margin(0, 0, 0), 10000);
        due(least.margin(0, 1, 0), 30000);
        // without risks nothing happens
        RateOffice e = Desk.office("factor a 2;");
        e.relativity(0, 0, 2000);
        due(e.level(), 1000);
        due(e.margin(0, 0, 0), 2000);
        due(e.count(7), 2);
        due(Desk.office("base 7;risk 1 1 1;").level(), 7);
        RateOffice top = Desk.office("base 99999;factor a 1;risk 1 1 1 0;");
        top.relativity(0, 0, 20000);
        due(top.level(), 99999);
    }

    private static void relativityAndClaims() {
        begin(10);
        RateOffice x = Desk.office("factor a 3;join a 0;band a 5000 20000;risk 1 5 6 0;");
        due(x.relativity(0, 1, 5000), 10000);
        due(x.relativity(0, 0, 20000), 5000);
        due(x.margin(0, 1, 0), 20000);
        due(x.margin(0, 2, 0), 10000);
        due(x.relativity(0, 0, 4999), -1);
        due(x.relativity(0, 0, 20001), -1);
        due(x.relativity(0, 3, 10000), -1);
        due(x.relativity(0, -1, 10000), -1);
        due(x.relativity(1, 0, 10000), -1);
        due(x.relativity(-1, 0, 10000), -1);
        due(x.count(7), 2);
        begin(11);
        due(x.claims(0, 99999), 5);
        due(x.claims(0, 0), 99999);
        due(x.of(0, 1), 0);
        due(x.claims(0, -1), -1);
        due(x.claims(0, 100000), -1);
        due(x.claims(1, 1), -1);
        due(x.claims(-1, 1), -1);
        due(x.count(7), 4);
    }

    private static void riskAndDrop() {
        begin(12);
        RateOffice x = Desk.office("factor a 3;factor b 6;");
        due(x.risk(5, 6, 7, 2 + 8 * 5), 0);
        due(x.of(0, 0), 5);
        due(x.of(0, 1), 6);
        due(x.of(0, 2), 7);
        due(x.of(0, 6), 2);
        due(x.of(0, 7), 5);
        due(x.risk(99, 99999, 99999, 0), 1);
        due(x.risk(0, 0, 1, 0), -1);
        due(x.risk(100, 0, 1, 0), -1);
        due(x.risk(1, -1, 1, 0), -1);
        due(x.risk(1, 100000, 1, 0), -1);
        due(x.risk(1, 0, 0, 0), -1);
        due(x.risk(1, 0, 100000, 0), -1);
        due(x.risk(1, 0, 1, 3), -1);
        due(x.risk(1, 0, 1, 8 * 6), -1);
        due(x.risk(1, 0, 1, 64), -1);
        due(x.risk(1, 0, 1, 1 << 12), -1);
        due(x.risk(1, 0, 1, 1 << 30), -1);
        due(x.risk(1, 0, 1, -1), -1);
        due(x.risk(1, 0, 1, Integer.MIN_VALUE), -1);
        due(x.count(7), 2);
        for (int r = 2; r < 40; r++) {
            due(x.risk(1, 0, 1, r % 3), r);
        }
        due(x.risk(1, 0, 1, 0), -2);
        due(x.risk(0, 0, 1, 0), -1);
        due(x.count(1), 40);
        due(x.count(7), 20);
        begin(13);
        RateOffice d = Desk.office(CAPS);
        due(d.drop(3), -1);
        due(d.drop(-1), -1);
        due(d.drop(1), 2);
        due(d.of(1, 0), 2);
        due(d.of(1, 2), 100);
        due(d.drop(1), 1);
        due(d.drop(0), 0);
        due(d.drop(0), -1);
        due(d.count(7), 3);
    }

    private static void join() {
        begin(14);
        RateOffice x = Desk.office("factor a 4;factor b 1;risk 1 100 1 0 0;");
        x.relativity(0, 0, 11000);
        x.relativity(0, 1, 12000);
        x.relativity(0, 2, 13000);
        x.relativity(0, 3, 14000);
        due(x.join(0, 2), 1);
        due(x.margin(0, 3, 0), 13000);
        due(x.join(0, 0), 1);
        due(x.margin(0, 1, 0), 11000);
        // both classes have two levels: the upper one takes the lower one's
        due(x.join(0, 1), 1);
        for (int l = 0; l < 4; l++) {
            due(x.margin(0, l, 0), 11000);
            due(x.margin(0, l, 1), 0);
            due(x.margin(0, l, 2), 3);
        }
        due(x.join(0, 2), 0);
        due(x.margin(0, 2, 2), 2);
        due(x.margin(0, 3, 1), 3);
        due(x.margin(0, 3, 0), 11000);
        due(x.join(0, 3), -1);
        due(x.join(1, 0), -1);
        due(x.join(0, -1), -1);
        due(x.join(0, 4), -1);
        due(x.join(2, 0), -1);
        due(x.join(-1, 0), -1);
        due(x.count(7), 8);
    }

    private static void settings() {
        begin(15);
        RateOffice x = Desk.office(FLEET);
        due(x.cap(0), 250);
        due(x.cap(999), 0);
        due(x.cap(1000), -1);
        due(x.cap(-1), -1);
        due(x.count(4), 999);
        due(x.count(7), 2);
        begin(16);
        due(x.trust(999), 0);
        due(x.trust(0), 999);
        due(x.trust(1000), -1);
        due(x.trust(-1), -1);
        due(x.count(9), 0);
        due(x.count(7), 4);
        begin(17);
        due(x.of(0, 3), 270);
        due(x.of(1, 3), 200);
        due(x.fleet(2, 500), 2);
        due(x.of(0, 3), 150);
        due(x.of(1, 3), 100);
        due(x.fleet(4, 0), 0);
        due(x.fleet(1, 0), 2);
        due(x.fleet(99, 0), 0);
        due(x.fleet(0, 0), -1);
        due(x.fleet(100, 0), -1);
        due(x.fleet(1, 501), -1);
        due(x.fleet(1, -1), -1);
        due(x.count(10), 99);
        due(x.count(11), 0);
        due(x.count(7), 8);
        // what goes off is rounded down: 101 less 50
        RateOffice o = Desk.office("base 101;fleet 1 500;risk 1 1 1;");
        due(o.of(0, 3), 51);
    }

    private static void factor() {
        begin(18);
        RateOffice x = Desk.office(TWO);
        due(x.factor(1, 0), 3);
        due(x.factor(0, 1), 1000);
        due(x.factor(0, 2), 50000);
        due(x.factor(1, 1), 5000);
        due(x.factor(1, 2), 20000);
        due(x.factor(1, 3), 3);
        x.join(1, 1);
        due(x.factor(1, 3), 2);
        due(x.factor(1, 4), 0);
        x.claims(2, 99);
        due(x.factor(1, 4), 1);
        // one that doesn't differ at all is farthest off, too; the empty one is none
        RateOffice y = Desk.office("base 100;factor a 3;risk 1 100 1 1;");
        due(y.factor(0, 4), 1);
        y.drop(0);
        due(y.factor(0, 4), -2);
        due(Desk.thrown(y, 0, 4), 0);
        due(Desk.thrown(y, 1, 0), 1);
        due(Desk.thrown(y, -1, 0), 1);
        due(Desk.thrown(y, 1, 5), 1);
        due(Desk.thrown(y, 0, 5), 2);
        due(Desk.thrown(y, 0, -1), 2);
    }

    private static void margin() {
        begin(19);
        RateOffice x = Desk.office(TWO);
        x.join(1, 1);
        long[] want = {10000, 1, 2, 100, 200, 2, 1, 0};
        for (int what = 0; what < 8; what++) {
            due(x.margin(1, 1, what), want[what]);
            due(x.margin(1, 2, what), want[what]);
        }
        due(x.margin(1, 2, 8), -2000);
        due(x.margin(1, 2, -1), -2000);
        due(x.margin(1, 3, 0), -2000);
        due(x.margin(1, -1, 0), -2000);
        due(x.margin(2, 0, 0), -2000);
        due(x.margin(-1, 0, 0), -2000);
        // balance: 1000 * 50 is no more than 50 * 1000, by one more it is; the empty one does
        RateOffice b = Desk.office("base 950;bound 50;factor a 2;risk 1 1000 1 0;");
        due(b.margin(0, 0, 7), 1);
        due(b.margin(0, 1, 7), 1);
        b.claims(0, 1001);
        due(b.margin(0, 0, 7), 0);
        // at the ends of the band: more (less) is paid
        RateOffice e = Desk.office("base 1000;factor a 1;band a 5000 20000;risk 1 100 1 0;");
        due(e.margin(0, 0, 7), 0);
        e.relativity(0, 0, 5000);
        due(e.margin(0, 0, 7), 1);
        e.claims(0, 9000);
        due(e.margin(0, 0, 7), 0);
        e.relativity(0, 0, 20000);
        due(e.margin(0, 0, 7), 1);
        e.claims(0, 100);
        due(e.margin(0, 0, 7), 0);
    }

    private static void ofAndAll() {
        begin(20);
        RateOffice x = Desk.office(CAPS);
        long[] want = {2, 0, 100, 200, 110, 10, 0};
        for (int what = 0; what < 7; what++) {
            due(x.of(2, what), want[what]);
        }
        due(x.of(1, 4), 180);
        due(x.of(1, 5), -20);
        due(x.of(2, 7), -999999999);
        due(x.of(2, -1), -999999999);
        due(x.of(3, 0), -999999999);
        due(x.of(-1, 0), -999999999);
        due(x.of(0, Integer.MAX_VALUE), -999999999);
        // downwards each time: 99 * 0.9999 = 98, 98 * 0.9999 = 97
        RateOffice d = Desk.office("base 99;factor a 1;factor b 1;risk 1 1 1 0 0;");
        d.relativity(0, 0, 9999);
        d.relativity(1, 0, 9999);
        due(d.of(0, 3), 97);
        // the greatest there can be
        RateOffice m = Desk.office("base 99999;factor a 1;factor b 1;factor c 1;factor d 1;band a 1 99999;band b 1 99999;"
                + "band c 1 99999;band d 1 99999;risk 99 0 1 0 0 0 0;");
        for (int f = 0; f < 4; f++) {
            m.relativity(f, 0, 99999);
        }
        long p = 99L * 99999;
        for (int f = 0; f < 4; f++) {
            p = p * 99999 / 10000;
        }
        due(m.of(0, 3), p);
        begin(21);
        RateOffice y = Desk.office(TWO);
        long[] all = {400, 400, 400, 200, 4, 400};
        for (int what = 0; what < 6; what++) {
            due(y.all(what), all[what]);
        }
        due(y.all(6), -1);
        due(y.all(-1), -1);
        due(x.all(5), 400);
        x.claims(1, 150);
        due(x.all(5), 390);
        for (int what = 0; what < 6; what++) {
            due(new RateOffice().all(what), 0);
        }
    }

    private static void fitted() {
        begin(22);
        RateOffice x = Desk.office("base 100;bound 0;factor a 2;risk 1 200 1 0;risk 1 50 1 1;");
        due(x.fitted(0), -2);
        due(x.fitted(1), 1);
        due(x.fitted(100), 1);
        due(x.fitted(101), -1);
        due(x.fitted(-1), -1);
        due(x.margin(0, 0, 0), 10000);
        due(x.count(7), 0);
        x.round(1);
        due(x.fitted(0), 0);
        // 10000 * 50003 by 50000 is 10000, downwards: it stays where it is, 3 off
        RateOffice y = Desk.office("base 50000;bound 0;factor a 1;risk 1 50003 1 0;");
        due(y.fitted(100), -2);
        y.claims(0, 50005);
        due(y.fitted(100), 1);
        due(new RateOffice().fitted(0), 0);
        // trust goes step by step: after n rounds of its own it is fitted in n, not in one less
        RateOffice t = Desk.office("base 1000;trust 3;bound 9;factor a 2;risk 1 2000 1 0;risk 2 999 1 1;");
        int n = t.fitted(100);
        due(n > 3 ? 1 : 0, 1);
        due(t.fitted(n), n);
        due(t.fitted(n - 1), -2);
        due(t.round(n - 1) > 0 ? 1 : 0, 1);
        due(t.round(1), 0);
        begin(23);
        RateOffice u = Desk.office(TWO);
        due(u.unbalanced(), 2);
        u.turn(1);
        due(u.unbalanced(), 2);
        u.drop(0);
        u.drop(0);
        u.drop(0);
        due(u.unbalanced(), 0);
    }

    private static void capping() {
        begin(24);
        RateOffice x = Desk.office(CAPS);
        // 110 + 180 + 110 from 11000 on
        due(x.offBalance(), 11000);
        x.claims(0, 299);
        due(x.offBalance(), 10900);
        // the greatest f there is: 1 * 9.9999
        RateOffice e = Desk.office("base 1;cap 999;risk 1 9 9;");
        due(e.offBalance(), 90000);
        e.claims(0, 10);
        due(e.offBalance(), -2);
        due(new RateOffice().offBalance(), 0);
        begin(25);
        x.claims(0, 300);
        int[] want = {2, 1, 1, 1};
        for (int what = 0; what < 4; what++) {
            due(x.changes(what), want[what]);
            due(new RateOffice().changes(what), 0);
        }
        due(x.changes(4), -1);
        due(x.changes(-1), -1);
        // exactly at an end nothing is held: 100 is 111 less 11; the other ends at 99
        RateOffice h = Desk.office("base 100;cap 100;risk 1 99999 111;risk 1 1 90;");
        due(h.offBalance(), -2);
        due(h.of(0, 4), 100);
        due(h.of(1, 4), 99);
        due(h.changes(2), 0);
        due(h.changes(3), 1);
        // without any way to go, it is held from the side it would leave by
        RateOffice z = Desk.office("base 100;cap 0;risk 1 99999 90;risk 1 1 110;risk 1 1 100;");
        due(z.offBalance(), -2);
        due(z.changes(0), 0);
        due(z.changes(1), 0);
        due(z.changes(2), 1);
        due(z.changes(3), 1);
        begin(33);
        due(x.hardest(0), 0);
        due(x.hardest(1), 1);
        due(x.hardest(2), -1);
        due(x.hardest(-1), -1);
        due(new RateOffice().hardest(0), -2);
        due(new RateOffice().hardest(1), -2);
        due(new RateOffice().hardest(2), -1);
        due(z.hardest(0), 0);
        due(z.hardest(1), 0);
        begin(34);
        int[] ranks = {1, 0, 2, -2, -2};
        for (int k = 0; k < ranks.length; k++) {
            due(x.ranked(k), ranks[k]);
        }
        due(x.ranked(-1), -1);
        due(x.ranked(Integer.MAX_VALUE), -2);
        due(new RateOffice().ranked(0), -2);
        due(new RateOffice().ranked(-1), -1);
        begin(35);
        due(x.leastCap(), 0);
        x.claims(1, 150);
        // 450: 100 and 100c, 200 and 200c, 100 and 100c
        due(x.leastCap(), 130);
        x.claims(0, 99999);
        due(x.leastCap(), -2);
        due(new RateOffice().leastCap(), 0);
        // it changes nothing
        due(x.count(4), 100);
    }

    private static void shareAndEnds() {
        begin(26);
        RateOffice x = Desk.office(TWO);
        due(x.share(0, 0), 750);
        due(x.share(0, 1), 250);
        due(x.share(1, 2), 0);
        x.join(1, 1);
        due(x.share(1, 2), 500);
        due(x.share(1, 3), -1);
        due(x.share(2, 0), -1);
        due(x.share(-1, 0), -1);
        due(x.share(0, -1), -1);
        RateOffice e = Desk.office("factor a 1;");
        due(e.share(0, 0), -2);
        due(e.share(0, 1), -1);
        due(Desk.office("base 1;factor a 2;risk 2 1 1 0;risk 1 1 1 1;").share(0, 0), 666);
        due(Desk.office("base 1;factor a 1;risk 1 1 1 0;").share(0, 0), 1000);
        begin(27);
        RateOffice b = Desk.office("factor a 4;band a 5000 20000;");
        b.relativity(0, 0, 5000);
        b.relativity(0, 3, 20000);
        due(b.atEnd(0, 0), 1);
        due(b.atEnd(0, 1), 1);
        b.join(0, 0);
        due(b.atEnd(0, 0), 1);
        b.join(0, 1);
        b.join(0, 2);
        due(b.atEnd(0, 0), 1);
        due(b.atEnd(0, 1), 0);
        due(b.atEnd(0, 2), -1);
        due(b.atEnd(0, -1), -1);
        due(b.atEnd(1, 0), -1);
        due(b.atEnd(-1, 0), -1);
        RateOffice both = Desk.office("factor a 2;band a 10000 10000;");
        due(both.atEnd(0, 0), 2);
        due(both.atEnd(0, 1), 2);
        begin(28);
        RateOffice f = Desk.office(FLEET);
        // 300 less 300 * 0.336 (100), and 200, are 400
        due(f.mostOff(), 336);
        due(f.count(11), 100);
        f.claims(1, 200);
        due(f.mostOff(), 3);
        f.claims(1, 201);
        due(f.mostOff(), -2);
        f.claims(0, 0);
        due(f.mostOff(), 500);
        f.fleet(99, 0);
        f.claims(1, 500);
        due(f.mostOff(), 500);
        f.claims(1, 501);
        due(f.mostOff(), -2);
        due(new RateOffice().mostOff(), 500);
    }

    private static void stepsAndSwings() {
        begin(29);
        RateOffice x = Desk.office("base 101;fleet 1 500;factor a 2;factor b 2;risk 1 1 1 1 1;");
        x.relativity(0, 1, 15000);
        x.relativity(1, 1, 5000);
        due(x.step(0, 0), 101);
        due(x.step(0, 1), 151);
        due(x.step(0, 2), 75);
        due(x.of(0, 3), 38);
        due(x.step(0, 3), -1);
        due(x.step(0, -1), -1);
        due(x.step(1, 0), -1);
        due(x.step(-1, 0), -1);
        begin(30);
        RateOffice s = Desk.office("base 100;factor a 4;factor b 1;risk 1 1 1 3 0;");
        due(s.swing(0, 0, 0), 0);
        due(s.swing(0, 0, 1), 0);
        s.relativity(0, 1, 20000);
        s.relativity(0, 2, 20000);
        s.relativity(0, 3, 5000);
        due(s.swing(0, 0, 0), 1);
        due(s.swing(0, 0, 1), 3);
        due(s.swing(0, 1, 0), 0);
        // others that come to the same premium, by rounding down: the first of them
        s.relativity(0, 1, 20001);
        s.relativity(0, 2, 20002);
        due(s.swing(0, 0, 0), 1);
        due(s.swing(0, 0, 2), -1);
        due(s.swing(0, 0, -1), -1);
        due(s.swing(0, 2, 0), -1);
        due(s.swing(0, -1, 0), -1);
        due(s.swing(1, 0, 0), -1);
        due(s.swing(-1, 0, 0), -1);
    }

    private static void ratioAndWorst() {
        begin(31);
        RateOffice x = Desk.office(TWO);
        due(x.ratio(1, 0), 1500);
        due(x.ratio(1, 1), 500);
        due(x.ratio(1, 2), -2);
        x.join(1, 1);
        due(x.ratio(1, 2), 500);
        due(x.ratio(1, 3), -1);
        due(x.ratio(1, -1), -1);
        due(x.ratio(2, 0), -1);
        due(x.ratio(-1, 0), -1);
        due(Desk.office("base 1;factor a 1;risk 3 99999 1 0;").ratio(0, 0), 33333000);
        due(Desk.office("base 1;factor a 1;risk 3 2 1 0;").ratio(0, 0), 666);
        due(Desk.office("base 1;factor a 1;risk 1 2 1 0;").ratio(0, 0), 2000);
        begin(32);
        RateOffice y = Desk.office(TWO);
        // a balances; of b both are off by 100: the first
        due(y.worst(), 8);
        y.claims(2, 99);
        due(y.worst(), 9);
        y.join(1, 1);
        due(y.worst(), 9);
        y.claims(0, 10);
        due(y.worst(), 0);
        due(new RateOffice().worst(), -2);
        // what is farthest off, but at the end of its band, balances
        RateOffice e = Desk.office("base 1000;factor a 2;risk 1 1 1 0;risk 1 900 1 1;");
        due(e.worst(), 0);
        e.relativity(0, 0, 1000);
        due(e.worst(), 1);
        e.claims(1, 1000);
        due(e.worst(), -2);
    }

    private static void without() {
        begin(36);
        RateOffice x = Desk.office(TWO);
        due(x.withoutFactor(0, 0), 200);
        x.turn(1);
        due(x.all(3), 100);
        // b at 10000 again, a balances then: b is off by 100 twice
        due(x.withoutFactor(1, 0), 200);
        due(x.withoutFactor(1, 50), 200);
        // a stays, b alone turns: as it is now
        due(x.withoutFactor(0, 50), 100);
        due(x.all(3), 100);
        due(x.count(7), 1);
        // a goes back to 10000 and stays, b alone turns: as above, whatever a was
        x.relativity(0, 0, 20000);
        due(x.withoutFactor(0, 1), 100);
        // without rounds b has 15000 and 5000 still, and a is at 10000
        due(x.withoutFactor(0, 0), 100);
        // b at 10000, a turns to 10000 and 10000 again
        due(x.withoutFactor(1, 1), 200);
        due(x.undo(), 1);
        due(x.withoutFactor(0, 51), -1);
        due(x.withoutFactor(0, -1), -1);
        due(x.withoutFactor(2, 0), -1);
        due(x.withoutFactor(-1, 0), -1);
        begin(37);
        RateOffice j = Desk.office("base 100;factor a 3;risk 1 300 1 0;risk 1 100 1 1;risk 1 110 1 2;");
        // 0 and 1: off by 200, and 10; 1 and 2: 200, and 10: the first
        due(j.bestJoin(0, 0), 0);
        // behind rounds all balance, whichever are joined
        due(j.bestJoin(0, 50), 0);
        // 0 and 1: off by 300, and 100; 1 and 2: 200, and 0
        RateOffice k = Desk.office("base 100;factor a 4;risk 1 300 1 0;risk 1 200 1 1;risk 1 0 1 2;");
        due(k.bestJoin(0, 0), 1);
        k.join(0, 1);
        due(k.bestJoin(0, 0), 0);
        k.join(0, 0);
        k.join(0, 2);
        due(k.bestJoin(0, 0), -2);
        due(k.bestJoin(0, 51), -1);
        due(k.bestJoin(0, -1), -1);
        due(k.bestJoin(1, 0), -1);
        due(k.bestJoin(-1, 0), -1);
        due(k.count(7), 3);
        due(Desk.office("factor a 1;").bestJoin(0, 0), -2);
        due(Desk.office("factor a 3;").bestJoin(0, 5), 0);
        begin(38);
        RateOffice r = Desk.office(CAPS);
        r.claims(1, 150);
        due(r.withoutRisk(2, 0), 225);
        // the rounds bring 200 to 450 by relativities, so that the base stays
        due(r.withoutRisk(2, 50), 100);
        due(r.withoutRisk(3, 0), -1);
        due(r.withoutRisk(-1, 0), -1);
        due(r.withoutRisk(0, 51), -1);
        due(r.withoutRisk(0, -1), -1);
        due(r.count(1), 3);
        due(r.count(2), 100);
        r.drop(0);
        r.drop(0);
        due(r.withoutRisk(0, 3), 100);
    }

    private static void quoteAndKinds() {
        begin(39);
        RateOffice x = Desk.office("base 101;fleet 3 500;factor a 3;factor b 2;");
        x.relativity(0, 2, 15000);
        x.relativity(1, 1, 5000);
        due(x.quote(1, 0), 101);
        due(x.quote(1, 2), 151);
        due(x.quote(1, 2 + 8), 75);
        due(x.quote(3, 0), 152);
        due(x.quote(99, 0), 5000);
        due(x.quote(0, 0), -1);
        due(x.quote(100, 0), -1);
        due(x.quote(1, 3), -1);
        due(x.quote(1, 16), -1);
        due(x.quote(1, 64), -1);
        due(x.quote(1, 1 << 30), -1);
        due(x.quote(1, -8), -1);
        due(new RateOffice().quote(1, 0), 1000);
        due(new RateOffice().quote(1, 1), -1);
        due(x.count(1), 0);
        begin(40);
        due(x.kinds(0), 6);
        due(x.kinds(1), 6);
        x.risk(1, 1, 1, 8);
        x.risk(2, 2, 2, 8);
        x.risk(1, 1, 1, 9);
        due(x.kinds(0), 6);
        due(x.kinds(1), 4);
        due(x.kinds(2), -1);
        due(x.kinds(-1), -1);
        RateOffice n = new RateOffice();
        due(n.kinds(0), 1);
        due(n.kinds(1), 1);
        n.risk(1, 1, 1, 0);
        due(n.kinds(1), 0);
        due(Desk.office("factor a 6;factor b 6;factor c 6;factor d 6;").kinds(1), 1296);
    }

    private static void chance() {
        begin(41);
        RateOffice x = Desk.office("base 100;bound 0;seed 7;factor a 2;risk 1 100 1 0;risk 1 100 1 1;");
        // from 7: 1282168116 (by 65536: 19564, an even one: risk 0), 642666333 (9806, modulo 1000: 806)
        due((7L * 1103515245 + 12345) & 0x7fffffff, 1282168116);
        due((1282168116L * 1103515245 + 12345) & 0x7fffffff, 642666333);
        due(x.chance(7, 1, 999, 0, 0), 706);
        due(x.chance(-1, 1, 999, 0, 0), 706);
        due(x.chance(7, 1, 999, 0, 1), 200);
        due(x.chance(7, 1, 999, 0, 2), 1);
        // a round brings it to 5 times 10000 at most: 500
        due(x.chance(7, 1, 999, 1, 0), 306);
        due(x.chance(7, 1, 999, 1, 1), 600);
        due(x.chance(7, 1, 999, 1, 2), 0);
        // modulo 1 nothing but 0 is drawn
        due(x.chance(7, 1, 0, 0, 0), 100);
        due(x.chance(Integer.MAX_VALUE, 60, 99999, 20, 1) > 0 ? 1 : 0, 1);
        due(x.chance(0, 60, 0, 0, 0), 200);
        // nothing changes
        due(x.of(0, 1), 100);
        due(x.margin(0, 0, 0), 10000);
        due(x.count(7), 0);
        due(x.chance(-2, 1, 1, 1, 0), -1);
        due(x.chance(Integer.MIN_VALUE, 1, 1, 1, 0), -1);
        due(x.chance(0, 0, 1, 1, 0), -1);
        due(x.chance(0, 61, 1, 1, 0), -1);
        due(x.chance(0, 1, -1, 1, 0), -1);
        due(x.chance(0, 1, 100000, 1, 0), -1);
        due(x.chance(0, 1, 1, -1, 0), -1);
        due(x.chance(0, 1, 1, 21, 0), -1);
        due(x.chance(0, 1, 1, 1, 3), -1);
        due(x.chance(0, 1, 1, 1, -1), -1);
        due(new RateOffice().chance(0, 1, 1, 1, 0), -1);
    }

    private static void undoAndImages() {
        begin(42);
        RateOffice x = Desk.office("base 100;factor a 3;risk 1 200 100 0;risk 2 100 100 1;");
        String before = Desk.picture(x);
        x.turn(0);
        x.round(2);
        x.rebase();
        x.level();
        x.relativity(0, 0, 7000);
        x.claims(0, 7);
        x.risk(3, 3, 3, 2);
        x.drop(0);
        x.join(0, 1);
        x.cap(3);
        x.trust(4);
        x.fleet(5, 6);
        due(x.count(7), 12);
        for (int left = 11; left >= 0; left--) {
            due(x.undo(), left);
        }
        due(before.equals(Desk.picture(x)) ? 1 : 0, 1);
        due(x.undo(), -1);
        // each one by itself
        for (int i = 0; i < 25; i++) {
            x.claims(0, 1000 + i);
            x.claims(0, -1);
            due(x.count(7), Math.min(20, i + 1));
        }
        for (int i = 24; i >= 5; i--) {
            due(x.undo(), i - 5);
            due(x.of(0, 1), 999 + i);
        }
        due(x.undo(), -1);
        due(x.of(0, 1), 1004);
        begin(43);
        RateOffice y = Desk.office("base 100;factor a 3;risk 1 200 100 0;risk 2 100 100 1;");
        due(y.back(), -1);
        y.cap(7);
        due(y.keep(), 2);
        due(y.count(7), 1);
        String kept = Desk.picture(y);
        y.turn(0);
        y.join(0, 0);
        y.drop(1);
        y.trust(5);
        y.fleet(1, 500);
        y.cap(9);
        y.rebase();
        begin(44);
        due(y.back(), 2);
        due(kept.equals(Desk.picture(y)) ? 1 : 0, 1);
        due(y.count(7), 0);
        due(y.undo(), -1);
        y.drop(0);
        // it stays, as it was
        due(y.back(), 2);
        due(kept.equals(Desk.picture(y)) ? 1 : 0, 1);
        y.drop(0);
        due(y.keep(), 1);
        y.drop(0);
        due(y.back(), 1);
        due(new RateOffice().keep(), 0);
    }

    private static void count() {
        begin(45);
        RateOffice x = Desk.office("factor a 3;factor b 6;join b 0;join b 1;base 5;bound 6;cap 7;trust 8;fleet 9 10;risk 1 1 1 0 2;");
        int[] want = {2, 1, 5, 6, 7, 7, 5, 0, 0, 8, 9, 10};
        for (int what = 0; what < want.length; what++) {
            due(x.count(what), want[what]);
        }
        due(x.count(12), -1);
        due(x.count(-1), -1);
        x.feed(0, 0, 0, 0, 0);
        due(x.count(8), 20);
        x.rebase();
        due(x.count(7), 1);
    }
}
