/** Each sentence about calls that tell what stands that names a boundary case: promises 18 to 35. */
public final class StandBoundsTest {
    private static final Sheet SHEET = new Sheet("StandBoundsTest");
    private static final int[] NO_FACTORS = {-1, 2, 3, 4, 8, Integer.MIN_VALUE, Integer.MAX_VALUE};
    private static final int[] NO_LEVELS = {-1, 3, 4, 5, 6, 7, 8, Integer.MIN_VALUE, Integer.MAX_VALUE};
    private static final int[] NO_RISKS = {-1, 3, 39, 40, Integer.MIN_VALUE, Integer.MAX_VALUE};

    // Factors of three and two levels; all pay 100 for each exposure.
    private static final String TWO = "base 100;bound 0;factor a 3;factor b 2;band b 5000 20000;"
            + "risk 1 130 100 0 0;risk 1 70 100 1 0;risk 2 190 200 1 1;";

    // Premiums of 100; by ten percent OLD goes to 100 .. 122, 101 .. 123, 81 .. 99, 82 .. 100, 90 .. 110.
    private static final String HELD = "base 100;cap 100;risk 1 99999 111;risk 1 99999 112;risk 1 99999 90;"
            + "risk 1 99999 91;risk 1 99999 100;";

    public static void main(String[] args) {
        factor();
        margin();
        of();
        all();
        fitted();
        unbalanced();
        offBalance();
        changes();
        share();
        atEnd();
        mostOff();
        step();
        swing();
        ratio();
        worst();
        hardest();
        ranked();
        leastCap();
        SHEET.end();
    }

    private static void due(long got, long want) {
        SHEET.due(got, want);
    }

    private static void factor() {
        SHEET.promise(18);
        SHEET.sentence("what 0 LEVELS, 1 LOW, 2 HIGH, 3 CLASSES");
        RateOffice c = Desk.office("factor a 6;factor b 1;band a 1 99999;join a 0;join a 4;");
        int[][] want = {{6, 1, 99999, 4}, {1, 1000, 50000, 1}};
        for (int f = 0; f < 2; f++) {
            for (int what = 0; what < 4; what++) {
                due(c.factor(f, what), want[f][what]);
            }
        }

        SHEET.sentence("of the CLASS that isn't EMPTY whose CLAIMS and PREMIUMS differ most, the first (-2: all are EMPTY).");
        RateOffice x = Desk.office(TWO);
        // a is off by 30, and 40; b by 0, and 10
        due(x.factor(0, 4), 1);
        due(x.factor(1, 4), 1);
        x.claims(0, 140);
        due(x.factor(0, 4), 0);
        x.claims(0, 60);
        due(x.factor(0, 4), 0);
        x.claims(0, 61);
        due(x.factor(0, 4), 1);
        // of a class its first level, though the last one alone has risks
        RateOffice y = Desk.office("base 100;factor a 4;join a 1;join a 2;risk 1 0 1 3;");
        due(y.factor(0, 4), 1);
        // one that isn't off at all, behind an empty one
        y.claims(0, 100);
        due(y.factor(0, 4), 1);
        due(y.margin(0, 1, 7), 1);
        y.drop(0);
        due(y.factor(0, 4), -2);
        due(Desk.office("factor a 1;").factor(0, 4), -2);
        // one that balances by the end of its band, too
        RateOffice e = Desk.office("base 100;factor a 2;band a 10000 20000;risk 1 0 1 0;risk 1 50 1 1;");
        due(e.factor(0, 4), 0);

        SHEET.sentence("IndexOutOfBoundsException: no such FACTOR.");
        for (int f : NO_FACTORS) {
            for (int what : new int[] {0, 1, 2, 3, 4, 5, -1}) {
                due(Desk.thrown(x, f, what), 1);
            }
        }
        for (int what = -1; what < 6; what++) {
            due(Desk.thrown(new RateOffice(), 0, what), 1);
        }

        SHEET.sentence("NoSuchElementException: no such what.");
        for (int what : new int[] {-1, 5, 6, 100, Integer.MIN_VALUE, Integer.MAX_VALUE}) {
            due(Desk.thrown(x, 0, what), 2);
            due(Desk.thrown(x, 1, what), 2);
        }
        for (int what = 0; what < 5; what++) {
            due(Desk.thrown(x, 1, what), 0);
        }
        due(x.count(7), 3);
    }

    private static void margin() {
        SHEET.promise(19);
        SHEET.sentence("what 0 RELATIVITY, 1 the first LEVEL of its CLASS, 2 the last one, 3 CLAIMS, 4 PREMIUMS, 5"
                + " EXPOSURE, 6 RISKS of its CLASS, 7 whether it BALANCES (1, 0)");
        RateOffice x = Desk.office(TWO);
        x.join(0, 1);
        long[][] want = {{10000, 0, 0, 130, 100, 1, 1, 0}, {10000, 1, 2, 260, 300, 3, 2, 0}, {10000, 1, 2, 260, 300, 3, 2, 0}};
        for (int l = 0; l < 3; l++) {
            for (int what = 0; what < 8; what++) {
                due(x.margin(0, l, what), want[l][what]);
            }
        }
        // an empty one
        RateOffice e = Desk.office("factor a 2;risk 1 1 1 0;");
        e.relativity(0, 1, 1234);
        long[] empty = {1234, 1, 1, 0, 0, 0, 0, 1};
        for (int what = 0; what < 8; what++) {
            due(e.margin(0, 1, what), empty[what]);
        }

        SHEET.sentence("-2000: no such ones.");
        for (int what = -1; what <= 8; what++) {
            for (int f : NO_FACTORS) {
                due(x.margin(f, 0, what), -2000);
            }
            for (int l : NO_LEVELS) {
                due(x.margin(0, l, what), -2000);
            }
            due(x.margin(1, 2, what), -2000);
            due(new RateOffice().margin(0, 0, what), -2000);
        }
        for (int what : new int[] {-1, 8, 9, Integer.MIN_VALUE, Integer.MAX_VALUE}) {
            due(x.margin(0, 0, what), -2000);
        }
    }

    private static void of() {
        SHEET.promise(20);
        SHEET.sentence("4 CAPPED by OFF-BALANCE (10000 if there is none), 5 CHANGE, 6 + f its LEVEL of FACTOR f");
        RateOffice h = Desk.office(HELD);
        long[] capped = {100, 101, 99, 100, 100};
        for (int r = 0; r < 5; r++) {
            due(h.of(r, 4), capped[r]);
            // each by itself, whatever was asked ahead of it
            due(Desk.office(HELD).of(r, 5), capped[r] - h.of(r, 2));
        }
        for (int r = 0; r < 5; r++) {
            h.claims(r, 0);
        }
        // by 0 all are at the lower end
        long[] lower = {100, 101, 81, 82, 90};
        for (int r = 0; r < 5; r++) {
            due(h.of(r, 4), lower[r]);
        }
        RateOffice x = Desk.office(TWO);
        due(x.of(2, 6), 1);
        due(x.of(2, 7), 1);
        due(x.of(0, 7), 0);
        RateOffice four = Desk.office("factor a 6;factor b 6;factor c 6;factor d 6;risk 1 1 1 5 0 5 4;");
        long[] levels = {5, 0, 5, 4};
        for (int f = 0; f < 4; f++) {
            due(four.of(0, 6 + f), levels[f]);
        }

        SHEET.sentence("-999999999: no such ones.");
        for (int what = -1; what <= 10; what++) {
            for (int r : NO_RISKS) {
                due(x.of(r, what), -999999999);
            }
            due(new RateOffice().of(0, what), -999999999);
        }
        for (int what : new int[] {-1, 8, 9, 10, 14, Integer.MIN_VALUE, Integer.MAX_VALUE}) {
            due(x.of(0, what), -999999999);
        }
        due(four.of(0, 10), -999999999);
        due(h.of(0, 6), -999999999);
    }

    private static void all() {
        SHEET.promise(21);
        SHEET.sentence("5 the sum of CAPPED ones by OFF-BALANCE (10000 if there is none)");
        RateOffice h = Desk.office(HELD);
        due(h.all(5), 500);
        for (int r = 0; r < 5; r++) {
            h.claims(r, 0);
        }
        due(h.all(5), 100 + 101 + 81 + 82 + 90);
        // one more than all lower ends
        h.claims(0, 455);
        due(h.all(5), 455);
        due(new RateOffice().all(5), 0);

        SHEET.sentence("NONE for another what.");
        for (int what : new int[] {-1, 6, 7, Integer.MIN_VALUE, Integer.MAX_VALUE}) {
            due(h.all(what), -1);
            due(new RateOffice().all(what), -1);
        }
    }

    /** Fitted in 99, 100, 101 rounds by a bound of 102, 100, 98 thousandths: half of what is due is paid at first. */
    private static RateOffice slow(int bound) {
        return Desk.office("base 10000;trust 61;bound " + bound + ";factor a 1;risk 1 20000 1 0;");
    }

    private static void fitted() {
        SHEET.promise(22);
        SHEET.sentence("FITTED in n 0 .. 100 from now on");
        due(slow(102).fitted(100), 99);
        due(slow(102).fitted(99), 99);
        due(slow(100).fitted(100), 100);
        RateOffice x = slow(100);
        x.round(50);
        x.round(49);
        due(x.unbalanced(), 1);
        due(x.fitted(1), 1);
        x.round(1);
        due(x.unbalanced(), 0);
        due(x.fitted(0), 0);
        due(x.fitted(100), 0);
        due(new RateOffice().fitted(0), 0);
        due(new RateOffice().fitted(100), 0);
        due(Desk.office("factor a 6;").fitted(0), 0);

        SHEET.sentence("-2: not in n");
        due(slow(100).fitted(99), -2);
        due(slow(100).fitted(0), -2);
        due(slow(98).fitted(100), -2);
        // it stays as it is, 3 off, for ever: 10000 * 50003 by 50000 is 10000
        due(Desk.office("base 50000;bound 0;factor a 1;risk 1 50003 1 0;").fitted(100), -2);

        SHEET.sentence("NONE: no such n. (Nothing changes.)");
        RateOffice y = slow(100);
        for (int n : new int[] {-1, 101, 1000, Integer.MIN_VALUE, Integer.MAX_VALUE}) {
            due(y.fitted(n), -1);
            due(new RateOffice().fitted(n), -1);
        }
        due(y.fitted(100), 100);
        due(y.count(7), 0);
        SHEET.same(Desk.picture(y), Desk.picture(slow(100)));
    }

    private static void unbalanced() {
        SHEET.promise(23);
        SHEET.sentence("How many MARGINS (not EMPTY) of all FACTORS don't BALANCE.");
        RateOffice x = Desk.office(TWO);
        due(x.unbalanced(), 3);
        x.join(0, 0);
        due(x.unbalanced(), 2);
        x.relativity(1, 1, 5000);
        x.relativity(1, 1, 10000);
        x.claims(2, 200);
        due(x.unbalanced(), 0);
        due(new RateOffice().unbalanced(), 0);
        due(Desk.office("factor a 6;factor b 6;bound 0;").unbalanced(), 0);
        due(Desk.office("bound 0;risk 1 5 1;").unbalanced(), 0);
        // as many as there can be
        RateOffice most = Desk.office("base 9;bound 0;factor a 6;factor b 6;factor c 6;factor d 6;");
        for (int l = 0; l < 6; l++) {
            most.risk(1, 5 + l % 4, 1, l | l << 3 | l << 6 | l << 9);
        }
        due(most.unbalanced(), 24);
    }

    private static void offBalance() {
        SHEET.promise(24);
        SHEET.sentence("OFF-BALANCE; -2: there is none.");
        RateOffice x = Desk.office("base 10000;cap 999;risk 1 99999 99999;");
        due(x.offBalance(), 99999);
        x.risk(1, 2, 1, 0);
        due(x.offBalance(), -2);
        x.undo();
        x.claims(0, 0);
        due(x.offBalance(), 0);
        due(Desk.office(HELD).offBalance(), -2);
        due(new RateOffice().offBalance(), 0);
    }

    private static void changes() {
        SHEET.promise(25);
        SHEET.sentence("How many RISKS have a CHANGE above 0 (what 0), below 0 (1)");
        RateOffice h = Desk.office(HELD);
        due(h.changes(0), 2);
        due(h.changes(1), 2);
        due(new RateOffice().changes(0), 0);
        due(new RateOffice().changes(1), 0);
        // by one: 100 to 101, 100 to 99
        RateOffice one = Desk.office("base 101;risk 1 99999 100;risk 1 99999 101;risk 1 99999 102;");
        due(one.changes(0), 1);
        due(one.changes(1), 1);

        SHEET.sentence("are held by the lower end of the cap (2), by the upper one (3) (CAPPED is that, PREMIUM times f"
                + " would be otherwise)");
        // 100 is the lower end of 111, the upper one of 91: those are not held
        due(h.changes(2), 1);
        due(h.changes(3), 1);
        for (int r = 0; r < 5; r++) {
            h.claims(r, 0);
        }
        due(h.changes(2), 5);
        due(h.changes(3), 0);
        // all at the upper end: 111 and 11, 112 and 11, 90 and 9, 91 and 9, 100 and 10; the last to come is 112 by 12300
        h.claims(0, 111 + 112 + 90 + 91 + 100 + 50);
        due(h.offBalance(), 12300);
        due(h.changes(3), 4);
        due(h.changes(2), 0);
        // those that are gone are none of them; as many as there can be
        h.drop(4);
        h.drop(3);
        due(h.offBalance(), -2);
        due(h.changes(0), 1);
        due(h.changes(1), 2);
        due(h.changes(2), 1);
        due(h.changes(3), 1);
        RateOffice full = Desk.office("base 9;" + Desk.times(40, "risk 1 9 100;"));
        due(full.changes(1), 40);
        due(full.changes(2), 40);
        due(full.changes(0), 0);
        due(full.changes(3), 0);
        due(new RateOffice().changes(2), 0);
        due(new RateOffice().changes(3), 0);

        SHEET.sentence("NONE for another what.");
        for (int what : new int[] {-1, 4, 5, Integer.MIN_VALUE, Integer.MAX_VALUE}) {
            due(h.changes(what), -1);
            due(new RateOffice().changes(what), -1);
        }
    }

    /** Nobody pays: 9 by a tenth is 0. */
    private static RateOffice unpaid() {
        RateOffice x = Desk.office("base 9;factor a 3;risk 1 5 1 0;");
        x.relativity(0, 0, 1000);
        return x;
    }

    private static void share() {
        SHEET.promise(26);
        SHEET.sentence("Of PAID how much the CLASS of a LEVEL pays, in thousandths, downwards");
        RateOffice x = Desk.office("base 1;factor a 3;risk 2 1 1 0;risk 1 1 1 1;");
        due(x.share(0, 0), 666);
        due(x.share(0, 1), 333);
        due(x.share(0, 2), 0);
        x.join(0, 1);
        due(x.share(0, 2), 333);
        x.join(0, 0);
        due(x.share(0, 2), 1000);
        RateOffice few = Desk.office("base 1;factor a 2;risk 1 1 1 0;risk 99 1 1 1;");
        due(few.share(0, 0), 10);
        due(few.share(0, 1), 990);
        RateOffice less = Desk.office("base 1000;factor a 2;risk 1 1 1 0;risk 50 1 1 1;");
        less.relativity(0, 0, 1000);
        less.relativity(0, 1, 20000);
        // 100 of 1000100
        due(less.share(0, 0), 0);
        due(less.share(0, 1), 999);

        // 1 is all there is
        due(Desk.office("base 1;factor a 2;risk 1 1 1 0;").share(0, 0), 1000);
        due(Desk.office("base 1;factor a 2;risk 1 1 1 0;").share(0, 1), 0);

        SHEET.sentence("-2: PAID is 0");
        due(unpaid().share(0, 0), -2);
        due(unpaid().share(0, 1), -2);
        due(Desk.office("factor a 1;").share(0, 0), -2);

        SHEET.sentence("NONE: no such LEVEL.");
        RateOffice y = Desk.office(TWO);
        for (int f : NO_FACTORS) {
            due(y.share(f, 0), -1);
        }
        for (int l : NO_LEVELS) {
            due(y.share(0, l), -1);
            due(unpaid().share(0, l), -1);
        }
        due(y.share(1, 2), -1);
        due(new RateOffice().share(0, 0), -1);
    }

    private static void atEnd() {
        SHEET.promise(27);
        SHEET.sentence("CLASSES of a FACTOR whose RELATIVITY is LOW (what 0), HIGH (1)");
        RateOffice x = Desk.office("factor a 6;factor b 2;band a 5000 20000;");
        due(x.atEnd(0, 0), 0);
        due(x.atEnd(0, 1), 0);
        int[] rates = {5000, 5000, 5001, 19999, 20000, 20000};
        for (int l = 0; l < 6; l++) {
            x.relativity(0, l, rates[l]);
        }
        due(x.atEnd(0, 0), 2);
        due(x.atEnd(0, 1), 2);
        due(x.atEnd(1, 0), 0);
        x.join(0, 0);
        x.join(0, 4);
        due(x.atEnd(0, 0), 1);
        due(x.atEnd(0, 1), 1);
        x.join(0, 3);
        due(x.atEnd(0, 1), 0);
        RateOffice both = Desk.office("factor a 6;band a 10000 10000;");
        due(both.atEnd(0, 0), 6);
        due(both.atEnd(0, 1), 6);

        SHEET.sentence("NONE: no such ones.");
        for (int f : NO_FACTORS) {
            due(x.atEnd(f, 0), -1);
            due(x.atEnd(f, 1), -1);
        }
        for (int what : new int[] {-1, 2, Integer.MIN_VALUE, Integer.MAX_VALUE}) {
            due(x.atEnd(0, what), -1);
        }
        due(new RateOffice().atEnd(0, 0), -1);
    }

    private static void mostOff() {
        SHEET.promise(28);
        SHEET.sentence("The greatest OFF 0 .. 500 by which PAID is WHOLE or more; -2: by none.");
        int[][] rows = {{0, 500}, {499, 500}, {500, 500}, {501, 499}, {999, 1}, {1000, 0}, {1001, -2}, {99999, -2}};
        for (int[] row : rows) {
            for (int off : new int[] {0, 1, 250, 500}) {
                // whatever OFF is now
                RateOffice x = Desk.office("base 1000;fleet 1 " + off + ";risk 1 " + row[0] + " 1;");
                due(x.mostOff(), row[1]);
                due(x.count(11), off);
                due(x.count(7), 0);
            }
        }
        // of 101, 9 thousandths are 0 (.909), 10 are 1 (.01), 20 are 2 (.02)
        due(Desk.office("base 101;fleet 1 0;risk 1 101 1;").mostOff(), 9);
        due(Desk.office("base 101;fleet 1 0;risk 1 100 1;").mostOff(), 19);
        // below SIZE nothing goes off
        RateOffice small = Desk.office("base 1000;fleet 2 0;risk 1 1000 1;");
        due(small.mostOff(), 500);
        small.claims(0, 1001);
        due(small.mostOff(), -2);
        due(new RateOffice().mostOff(), 500);
        // without premiums: WHOLE 0, WHOLE 1
        RateOffice nil = unpaid();
        due(nil.mostOff(), -2);
        nil.claims(0, 0);
        due(nil.mostOff(), 500);
    }

    private static void step() {
        SHEET.promise(29);
        SHEET.sentence("What PREMIUM of a RISK is behind its first n FACTORS (0: EXPOSURE times BASE; without OFF)");
        RateOffice x = Desk.office("base 101;fleet 1 500;factor a 2;factor b 2;risk 3 1 1 1 1;");
        x.relativity(0, 1, 15000);
        x.relativity(1, 1, 5000);
        due(x.step(0, 0), 303);
        due(x.step(0, 1), 454);
        due(x.step(0, 2), 227);
        due(x.of(0, 3), 114);
        due(Desk.office("base 99999;risk 99 1 1;").step(0, 0), 99L * 99999);

        SHEET.sentence("NONE: no such ones.");
        for (int n : new int[] {-1, 3, 4, 5, Integer.MIN_VALUE, Integer.MAX_VALUE}) {
            due(x.step(0, n), -1);
        }
        for (int r : new int[] {-1, 1, 40, Integer.MIN_VALUE, Integer.MAX_VALUE}) {
            due(x.step(r, 0), -1);
        }
        due(Desk.office("risk 1 1 1;").step(0, 1), -1);
        due(Desk.office("factor a 1;factor b 1;factor c 1;factor d 1;risk 1 1 1 0 0 0 0;").step(0, 4), 1000);
        due(Desk.office("factor a 1;factor b 1;factor c 1;factor d 1;risk 1 1 1 0 0 0 0;").step(0, 5), -1);
        due(new RateOffice().step(0, 0), -1);
    }

    private static void swing() {
        SHEET.promise(30);
        SHEET.sentence("The LEVEL of a FACTOR by which PREMIUM of a RISK would be greatest (what 0), least (1), the first");
        RateOffice x = Desk.office("base 100;factor a 6;factor b 1;risk 1 1 1 3 0;");
        due(x.swing(0, 0, 0), 0);
        due(x.swing(0, 0, 1), 0);
        due(x.swing(0, 1, 0), 0);
        due(x.swing(0, 1, 1), 0);
        int[] rates = {10000, 20000, 9000, 5000, 20000, 5000};
        for (int l = 0; l < 6; l++) {
            x.relativity(0, l, rates[l]);
        }
        due(x.swing(0, 0, 0), 1);
        due(x.swing(0, 0, 1), 3);
        x.relativity(0, 5, 4900);
        due(x.swing(0, 0, 1), 5);
        x.relativity(0, 5, 20100);
        due(x.swing(0, 0, 0), 5);
        // 4999 and 5000 are 49 and 50; 5001 is 50, too
        x.relativity(0, 3, 5001);
        x.relativity(0, 4, 5000);
        due(x.swing(0, 0, 1), 3);
        x.relativity(0, 4, 4999);
        due(x.swing(0, 0, 1), 4);
        // the same behind the next factor, and behind OFF: 2 less 1, 1 less 0
        RateOffice behind = Desk.office("base 100;factor a 2;factor b 1;risk 1 1 1 0 0;");
        behind.relativity(0, 1, 10100);
        due(behind.swing(0, 0, 0), 1);
        behind.relativity(1, 0, 1000);
        due(behind.swing(0, 0, 0), 0);
        RateOffice off = Desk.office("base 2;fleet 1 500;factor a 2;risk 1 1 1 0 ;");
        off.relativity(0, 1, 5000);
        due(off.swing(0, 0, 1), 0);
        off.fleet(2, 500);
        due(off.swing(0, 0, 1), 1);
        // the risk stays where it is
        due(x.of(0, 6), 3);
        // of each factor, its own levels alone, all of them above (below) what others have
        for (int f = 0; f < 4; f++) {
            RateOffice each = Desk.office("factor a 3;factor b 3;factor c 3;factor d 3;risk 1 1 1 2 1 2 1;");
            int[] above = {30000, 20000, 40000};
            int[] below = {3000, 4000, 2000};
            for (int l = 0; l < 3; l++) {
                each.relativity(f, l, above[l]);
            }
            due(each.swing(0, f, 0), 2);
            due(each.swing(0, f, 1), 1);
            for (int l = 0; l < 3; l++) {
                each.relativity(f, l, below[l]);
            }
            due(each.swing(0, f, 0), 1);
            due(each.swing(0, f, 1), 2);
            due(each.swing(0, (f + 1) % 4, 0), 0);
        }

        SHEET.sentence("NONE: no such ones.");
        RateOffice y = Desk.office(TWO);
        for (int r : NO_RISKS) {
            due(y.swing(r, 0, 0), -1);
        }
        for (int f : NO_FACTORS) {
            due(y.swing(0, f, 1), -1);
        }
        for (int what : new int[] {-1, 2, Integer.MIN_VALUE, Integer.MAX_VALUE}) {
            due(y.swing(0, 0, what), -1);
        }
        due(Desk.office("risk 1 1 1;").swing(0, 0, 0), -1);
        due(Desk.office("factor a 2;").swing(0, 0, 0), -1);
    }

    private static void ratio() {
        SHEET.promise(31);
        SHEET.sentence("CLAIMS times 1000 by PREMIUMS of the CLASS of a LEVEL, downwards");
        RateOffice x = Desk.office("base 1;factor a 3;risk 3 2 1 0;risk 1 0 1 1;");
        due(x.ratio(0, 0), 666);
        due(x.ratio(0, 1), 0);
        x.join(0, 0);
        due(x.ratio(0, 1), 500);
        due(Desk.office("base 99999;factor a 1;risk 99 99 1 0;").ratio(0, 0), 0);
        // 3999960 by 1, beyond an int
        RateOffice any = Desk.office("base 9;factor a 1;factor b 2;risk 1 99999 1 0 0;");
        any.relativity(1, 0, 1112);
        any.relativity(1, 1, 1000);
        for (int r = 1; r < 40; r++) {
            any.risk(1, 99999, 1, 8);
        }
        due(any.ratio(0, 0), 3999960000L);

        SHEET.sentence("-2: PREMIUMS are 0");
        due(x.ratio(0, 2), -2);
        due(unpaid().ratio(0, 0), -2);
        due(any.ratio(1, 1), -2);
        due(Desk.office("factor a 1;").ratio(0, 0), -2);

        SHEET.sentence("NONE: no such LEVEL.");
        RateOffice y = Desk.office(TWO);
        for (int f : NO_FACTORS) {
            due(y.ratio(f, 0), -1);
        }
        for (int l : NO_LEVELS) {
            due(y.ratio(0, l), -1);
        }
        due(y.ratio(1, 2), -1);
        due(new RateOffice().ratio(0, 0), -1);
    }

    private static void worst() {
        SHEET.promise(32);
        SHEET.sentence("The CLASS, FACTOR by FACTOR, LEVEL by LEVEL, that doesn't BALANCE and is farthest off by what both"
                + " differ by, the first: 8 times the FACTOR, and its first LEVEL; -2: all BALANCE.");
        RateOffice x = Desk.office(TWO);
        // a: 30, 40; b: 0, 10
        due(x.worst(), 1);
        x.claims(0, 140);
        due(x.worst(), 0);
        x.claims(2, 240);
        // a: 40, 10; b: 10, 40
        due(x.worst(), 0);
        x.claims(0, 139);
        due(x.worst(), 9);
        x.claims(2, 200);
        x.claims(1, 61);
        // a: 39, 39; b: 0, 0; joined a is 0
        due(x.worst(), 0);
        x.join(0, 0);
        due(x.worst(), -2);
        // of the last factor its last class, by its first level
        RateOffice last = Desk.office("base 100;factor a 1;factor b 1;factor c 1;factor d 6;join d 4;"
                + "risk 1 150 1 0 0 0 0;risk 1 50 1 0 0 0 5;");
        due(last.worst(), 24);
        last.claims(0, 149);
        due(last.worst(), 28);
        // what is farther off, but at the end of its band, balances
        RateOffice e = Desk.office("base 100;factor a 3;band a 10000 20000;risk 1 0 1 0;risk 1 150 1 1;risk 1 140 1 2;");
        due(e.worst(), 1);
        e.relativity(0, 0, 10001);
        due(e.worst(), 0);
        due(new RateOffice().worst(), -2);
        due(Desk.office("factor a 6;").worst(), -2);
    }

    private static void hardest() {
        SHEET.promise(33);
        SHEET.sentence("The RISK of the greatest CHANGE (what 0), of the least (1), the first");
        RateOffice h = Desk.office(HELD);
        // -11, -11, 9, 9, 0
        due(h.hardest(0), 2);
        due(h.hardest(1), 0);
        h.drop(2);
        due(h.hardest(0), 2);
        // all the same, below 0, above 0
        RateOffice low = Desk.office("base 1;risk 1 0 100;risk 1 0 100;");
        due(low.hardest(0), 0);
        due(low.hardest(1), 0);
        RateOffice high = Desk.office("base 9999;cap 100;risk 1 110 100;risk 1 110 100;");
        due(high.hardest(0), 0);
        due(high.hardest(1), 0);
        // below 0 alone: -25 is greater than -50
        RateOffice two = Desk.office("base 1;risk 1 0 200;risk 1 0 100;");
        due(two.hardest(0), 1);
        due(two.hardest(1), 0);
        due(Desk.office("risk 1 0 200;").hardest(1), 0);

        SHEET.sentence("-2: no RISKS");
        due(new RateOffice().hardest(0), -2);
        due(new RateOffice().hardest(1), -2);

        SHEET.sentence("NONE for another what.");
        for (int what : new int[] {-1, 2, Integer.MIN_VALUE, Integer.MAX_VALUE}) {
            due(h.hardest(what), -1);
            due(new RateOffice().hardest(what), -1);
        }
    }

    private static void ranked() {
        SHEET.promise(34);
        SHEET.sentence("RISKS by CHANGE, the least first, then by numbers: the k-th (0 on)");
        RateOffice h = Desk.office(HELD);
        int[] order = {0, 1, 4, 2, 3};
        for (int k = 0; k < 5; k++) {
            due(h.ranked(k), order[k]);
        }
        RateOffice full = Desk.office(Desk.times(40, "risk 1 1 1;"));
        for (int k = 0; k < 40; k++) {
            due(full.ranked(k), k);
        }

        SHEET.sentence("-2: there are not so many");
        due(h.ranked(5), -2);
        due(h.ranked(6), -2);
        due(h.ranked(Integer.MAX_VALUE), -2);
        due(full.ranked(40), -2);
        due(new RateOffice().ranked(0), -2);

        SHEET.sentence("NONE: k is below 0.");
        due(h.ranked(-1), -1);
        due(h.ranked(Integer.MIN_VALUE), -1);
        due(new RateOffice().ranked(-1), -1);
    }

    private static void leastCap() {
        SHEET.promise(35);
        SHEET.sentence("The least cap 0 .. 999 by which there is an OFF-BALANCE; -2: by none.");
        RateOffice x = Desk.office("base 99999;risk 1 1000 1000;");
        int[][] rows = {{0, 0}, {1000, 0}, {1001, 1}, {1002, 2}, {1998, 998}, {1999, 999}, {2000, -2}, {99999, -2}};
        for (int[] row : rows) {
            x.claims(0, row[0]);
            for (int cap : new int[] {0, 1, 999}) {
                // whatever it is now
                x.cap(cap);
                due(x.leastCap(), row[1]);
                due(x.count(4), cap);
            }
        }
        // a wider one has none: what is paid is less than was
        RateOffice low = Desk.office("base 1;risk 1 1000 1000;");
        due(low.offBalance(), -2);
        due(low.leastCap(), 0);
        low.claims(0, 1001);
        due(low.leastCap(), -2);
        // the first rises to 1099 by 99 thousandths and no more, the second falls by half as much for ever
        RateOffice mid = Desk.office("base 110;factor a 2;risk 1 1520 1000 0;risk 1 0 500 1;");
        mid.relativity(0, 1, 1000);
        due(mid.offBalance(), -2);
        due(mid.leastCap(), 39);
        // by the greatest f, 99999: 9.9999 times 100
        RateOffice f = Desk.office("base 100;risk 1 999 501;");
        due(f.leastCap(), 995);
        f.claims(0, 1000);
        due(f.leastCap(), -2);
        due(new RateOffice().leastCap(), 0);
    }
}
