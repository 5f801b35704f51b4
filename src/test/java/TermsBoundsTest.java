/** Each sentence of the terms about rates and chance that names a boundary case: terms 2 and 3. */
public final class TermsBoundsTest {
    private static final Sheet SHEET = new Sheet("TermsBoundsTest");

    public static void main(String[] args) {
        relativities();
        premiums();
        greatest();
        margins();
        turns();
        trusted();
        rounds();
        rebased();
        levelled();
        capped();
        offBalance();
        changeAndMisfit();
        draws();
        SHEET.end();
    }

    private static void due(long got, long want) {
        SHEET.due(got, want);
    }

    private static void relativities() {
        SHEET.terms(2);
        SHEET.sentence("RELATIVITIES: of each LEVEL one, in ten-thousandths (10000 at first).");
        RateOffice x = Desk.office("factor a 6;factor b 1;factor c 6;factor d 6;band a 10000 10000;band b 1 99999;");
        for (int f = 0; f < 4; f++) {
            for (int l = 0; l < x.factor(f, 0); l++) {
                due(x.margin(f, l, 0), 10000);
            }
        }

        SHEET.sentence("JOINED LEVELS of a FACTOR, a row of them, are a CLASS (a LEVEL by itself else), with one"
                + " RELATIVITY.");
        RateOffice y = Desk.office("factor z 6;factor a 6;factor b 6;join a 1;join a 2;join a 4;"
                + "risk 1 5 1 0 2 0;risk 2 6 1 0 3 0;risk 3 7 1 0 5 0;");
        int[] first = {0, 1, 1, 1, 4, 4};
        int[] last = {0, 3, 3, 3, 5, 5};
        int[] risks = {0, 2, 2, 2, 1, 1};
        y.relativity(1, 2, 12000);
        y.relativity(1, 5, 9000);
        int[] rates = {10000, 12000, 12000, 12000, 9000, 9000};
        for (int l = 0; l < 6; l++) {
            due(y.margin(1, l, 0), rates[l]);
            due(y.margin(1, l, 1), first[l]);
            due(y.margin(1, l, 2), last[l]);
            due(y.margin(1, l, 6), risks[l]);
            // those of the factors ahead and behind are by themselves
            due(y.margin(0, l, 1), l);
            due(y.margin(0, l, 2), l);
            due(y.margin(2, l, 1), l);
            due(y.margin(2, l, 2), l);
            due(y.margin(2, l, 0), 10000);
        }
        due(y.factor(1, 3), 3);
        RateOffice all = Desk.office("factor a 6;join a 4;join a 3;join a 2;join a 1;join a 0;");
        due(all.factor(0, 3), 1);
        due(all.margin(0, 5, 1), 0);
        due(all.margin(0, 0, 2), 5);
    }

    private static void premiums() {
        SHEET.sentence("EXPOSURE times BASE; FACTOR by FACTOR times the RELATIVITY of its LEVEL by 10000, downwards"
                + " each time");
        // 10, 19 (.999), 37 (.998), 73 (.996), 145 (.993); in one go it would be 159
        RateOffice x = Desk.office("base 10;factor a 1;factor b 1;factor c 1;factor d 1;risk 1 1 1 0 0 0 0;");
        for (int f = 0; f < 4; f++) {
            x.relativity(f, 0, 19999);
        }
        long[] behind = {10, 19, 37, 73, 145};
        for (int n = 0; n <= 4; n++) {
            due(x.step(0, n), behind[n]);
        }
        due(x.of(0, 3), 145);
        // down to 0, and no way back
        RateOffice y = Desk.office("base 1;factor a 1;factor b 1;risk 1 1 1 0 0;");
        y.relativity(0, 0, 9999);
        y.relativity(1, 0, 50000);
        due(y.of(0, 3), 0);

        SHEET.sentence("behind these, if EXPOSURE is SIZE or more, less that times OFF by 1000 (this downwards).");
        RateOffice f = Desk.office("base 7;fleet 3 500;risk 2 1 1;risk 3 1 1;risk 4 1 1;");
        due(f.of(0, 3), 14);
        due(f.of(1, 3), 11);
        due(f.of(2, 3), 14);
        f.fleet(4, 500);
        due(f.of(1, 3), 21);
        due(f.of(2, 3), 14);
        // 999 thousandths go off as 0, 1000 as 1
        due(Desk.office("base 999;fleet 1 1;risk 1 1 1;").of(0, 3), 999);
        due(Desk.office("base 1000;fleet 1 1;risk 1 1 1;").of(0, 3), 999);
        due(Desk.office("base 1;fleet 1 500;risk 1 1 1;").of(0, 3), 1);
        due(Desk.office("base 2;fleet 1 0;risk 1 1 1;").of(0, 3), 2);
        due(Desk.office("base 1000;fleet 99 1;risk 98 1 1;risk 99 1 1;").all(1), 98000 + 99000 - 99);
        // behind the factors: 6 * 0.5 is 3, less 1; ahead of them it would be 3 * 0.5, which is 1
        RateOffice g = Desk.office("base 6;fleet 1 500;factor a 1;risk 1 1 1 0;");
        g.relativity(0, 0, 5000);
        due(g.of(0, 3), 2);

        SHEET.sentence("WHOLE: CLAIMS of all RISKS; PAID: all PREMIUMS.");
        due(new RateOffice().all(0), 0);
        due(new RateOffice().all(1), 0);
        RateOffice most = Desk.office("base 99999;");
        for (int r = 0; r < 40; r++) {
            most.risk(99, 99999, 99999, 0);
        }
        due(most.all(0), 40L * 99999);
        due(most.all(1), 40L * 99 * 99999);
        due(most.all(2), 40L * 99999);
        due(most.all(4), 40L * 99);
    }

    /** The greatest there can be: 40 risks of the greatest exposure, each relativity at 99999. */
    private static void greatest() {
        SHEET.sentence("MARGIN of a CLASS: CLAIMS, PREMIUMS of RISKS with a LEVEL of it.");
        RateOffice x = Desk.office("base 99999;factor a 1;factor b 1;factor c 1;factor d 1;band a 1 99999;"
                + "band b 1 99999;band c 1 99999;band d 1 99999;fleet 99 500;");
        long p = 99L * 99999;
        for (int f = 0; f < 4; f++) {
            x.relativity(f, 0, 99999);
            p = p * 99999 / 10000;
        }
        p -= p * 500 / 1000;
        for (int r = 0; r < 40; r++) {
            due(x.risk(99, 99999, 99999, 0), r);
        }
        due(x.margin(3, 0, 3), 40L * 99999);
        due(x.margin(3, 0, 4), 40 * p);
        due(x.margin(3, 0, 5), 40 * 99);
        due(x.margin(3, 0, 6), 40);
        due(x.margin(3, 0, 7), 0);
        due(x.all(3), 4 * (40 * p - 40L * 99999));
        due(x.share(0, 0), 1000);
        due(x.ratio(0, 0), 0);
        due(x.offBalance(), least(p, 99999));
        due(x.fitted(0), -2);
        due(x.withoutFactor(0, 0), 4 * (40 * unrated(p) - 40L * 99999));
        due(x.rebase(), 1);
        // of several risks, those of one class alone
        RateOffice y = Desk.office("base 10;factor a 3;join a 1;risk 1 5 1 0;risk 2 6 1 1;risk 3 7 1 2;");
        due(y.margin(0, 0, 3), 5);
        due(y.margin(0, 0, 4), 10);
        due(y.margin(0, 2, 3), 13);
        due(y.margin(0, 1, 4), 50);
    }

    /** The least f by which a premium is worth so much. */
    private static long least(long premium, long worth) {
        long f = 0;
        while (premium * f / 10000 < worth) {
            f++;
        }
        return f;
    }

    /** The greatest premium there can be, of three factors alone. */
    private static long unrated(long greatest) {
        long p = 99L * 99999;
        for (int f = 0; f < 3; f++) {
            p = p * 99999 / 10000;
        }
        SHEET.holds(p < greatest, "three factors are worth less than four");
        return p - p * 500 / 1000;
    }

    private static RateOffice paying(int bound, int premium, int claims) {
        return Desk.office("base " + premium + ";bound " + bound + ";factor a 2;risk 1 " + claims + " 1 0;");
    }

    private static void margins() {
        SHEET.sentence("It is EMPTY without RISKS.");
        RateOffice e = Desk.office("base 9;factor a 3;join a 1;risk 1 0 1 2;");
        due(e.count(6), 1);
        due(e.margin(0, 0, 6), 0);
        // one without claims and without premiums isn't
        e.relativity(0, 2, 1000);
        due(e.margin(0, 1, 4), 0);
        due(e.margin(0, 1, 6), 1);
        due(e.count(6), 1);
        due(e.factor(0, 4), 1);
        e.drop(0);
        due(e.count(6), 2);

        SHEET.sentence("It BALANCES, if it is EMPTY or what both differ by, times 1000, is no more than bound times"
                + " CLAIMS");
        int[][] rows = {
            // bound, PREMIUMS, CLAIMS, whether it balances
            {50, 950, 1000, 1}, {50, 949, 1000, 0}, {50, 1050, 1000, 1}, {50, 1051, 1000, 0},
            {0, 1000, 1000, 1}, {0, 999, 1000, 0}, {0, 1001, 1000, 0}, {999, 1, 1000, 1}, {999, 1999, 1000, 1},
            {999, 2000, 1000, 0}, {10, 1, 0, 0}, {999, 1, 0, 0}, {10, 99, 100, 1}, {10, 99, 101, 0}, {10, 100, 99, 0},
            {999, 99999, 99999, 1}, {1, 99999, 99900, 1}, {1, 99999, 99899, 0}};
        for (int[] row : rows) {
            due(paying(row[0], row[1], row[2]).margin(0, 0, 7), row[3]);
            due(paying(row[0], row[1], row[2]).unbalanced(), 1 - row[3]);
            // the other level is empty
            due(paying(row[0], row[1], row[2]).margin(0, 1, 7), 1);
        }
        // without premiums: by 0 claims it balances, by more it doesn't, whatever the bound
        RateOffice nil = Desk.office("base 1;bound 999;factor a 1;risk 1 0 1 0;");
        nil.relativity(0, 0, 9999);
        due(nil.margin(0, 0, 4), 0);
        due(nil.margin(0, 0, 7), 1);
        nil.claims(0, 1);
        due(nil.margin(0, 0, 7), 0);

        SHEET.sentence("or if its RELATIVITY is LOW (HIGH) and PREMIUMS are more (less).");
        int[][] ends = {
            // RELATIVITY, CLAIMS (PREMIUMS are as much as it is), whether it balances
            {5000, 100, 1}, {5001, 100, 0}, {5000, 9000, 0}, {5000, 5000, 1}, {20000, 90000, 1}, {19999, 90000, 0},
            {20000, 100, 0}, {20000, 20000, 1}, {10000, 100, 0}, {10000, 20000, 0}, {5000, 4999, 1}, {20000, 20001, 1}};
        for (int[] row : ends) {
            RateOffice x = Desk.office("base 10000;bound 0;factor a 1;band a 5000 20000;risk 1 1 1 0;");
            x.relativity(0, 0, row[0]);
            x.claims(0, row[1]);
            due(x.margin(0, 0, 7), row[2]);
        }
        // LOW and HIGH are the same: nothing is off
        RateOffice both = Desk.office("bound 0;factor a 1;band a 10000 10000;risk 1 1 1 0;");
        due(both.margin(0, 0, 7), 1);
        both.claims(0, 99999);
        due(both.margin(0, 0, 7), 1);
    }

    private static void turns() {
        SHEET.sentence("MARGINS of its CLASSES as they are; then of each that is not EMPTY, PREMIUMS above 0");
        RateOffice x = Desk.office("base 1;factor a 4;factor b 2;risk 1 3 1 0 0;risk 1 3 1 1 1;risk 1 0 1 1 1;");
        x.relativity(1, 1, 9999);
        x.relativity(0, 1, 12000);
        x.relativity(0, 2, 13000);
        // level 0 pays 1, level 1 pays 0 for 3, levels 2 and 3 have no risks
        due(x.margin(0, 1, 4), 0);
        due(x.turn(0), 1);
        due(x.margin(0, 0, 0), 30000);
        due(x.margin(0, 1, 0), 12000);
        due(x.margin(0, 2, 0), 13000);
        due(x.margin(0, 3, 0), 10000);

        SHEET.sentence("its RELATIVITY r becomes v, what r times CLAIMS by PREMIUMS is, downwards, LOW at least, HIGH at"
                + " most");
        int[][] rows = {
            // BASE, RELATIVITY, CLAIMS, what it becomes; LOW 5000, HIGH 20000
            {3, 10000, 2, 6666}, {1000, 10000, 500, 5000}, {1000, 10000, 499, 5000}, {1000, 10000, 501, 5010},
            {1000, 10000, 0, 5000}, {1000, 10000, 2000, 20000}, {1000, 10000, 2001, 20000}, {1000, 10000, 1999, 19990},
            {1000, 10000, 99999, 20000}, {10000, 12345, 12344, 12344}, {7, 15000, 7, 10500}, {9999, 20000, 1, 5000},
            {1000, 5000, 500, 5000}, {1000, 20000, 2000, 20000}};
        for (int[] row : rows) {
            RateOffice t = Desk.office("base " + row[0] + ";factor a 1;band a 5000 20000;risk 1 1 1 0;");
            t.relativity(0, 0, row[1]);
            t.claims(0, row[2]);
            due(t.turn(0), row[1] == row[3] ? 0 : 1);
            due(t.margin(0, 0, 0), row[3]);
        }

        SHEET.sentence("(What a RELATIVITY would be ahead of LOW, HIGH may be any number.)");
        // one risk pays 1, 39 pay nothing, for 3999960 together: 90000 times that is beyond an int
        RateOffice any = Desk.office("base 1;factor a 1;factor b 2;band a 1 99999;risk 1 99999 1 0 0;");
        any.relativity(0, 0, 90000);
        any.relativity(1, 0, 1112);
        any.relativity(1, 1, 1000);
        for (int r = 1; r < 40; r++) {
            any.risk(1, 99999, 1, 8);
        }
        due(any.all(1), 1);
        due(any.all(0), 3999960);
        due(any.turn(0), 1);
        due(any.margin(0, 0, 0), 99999);
        due(any.turn(0), 0);
        RateOffice least = Desk.office("base 99999;factor a 2;band a 1 99999;risk 2 0 1 0;risk 1 1 1 1;");
        due(least.turn(0), 2);
        due(least.margin(0, 0, 0), 1);
        due(least.margin(0, 1, 0), 1);
        RateOffice levelled = Desk.office("base 99999;factor a 2;band a 1 99999;risk 2 0 1 0;risk 1 1 1 1;");
        levelled.relativity(0, 0, 1);
        levelled.relativity(0, 1, 99999);
        due(levelled.level(), 9);
        due(levelled.margin(0, 1, 0), 99999);
    }

    private static void trusted() {
        SHEET.sentence("with a trust above 0, r and v less r times EXPOSURE of the CLASS by (that and trust), this"
                + " downwards (below 0, too)");
        int[][] rows = {
            // trust, EXPOSURE, CLAIMS by 10000, what 10000 becomes
            {0, 1, 9997, 9997}, {1, 1, 10001, 10000}, {1, 1, 10002, 10001}, {1, 1, 10003, 10001}, {1, 1, 9999, 9999},
            {1, 1, 9998, 9999}, {1, 1, 9997, 9998}, {2, 1, 10002, 10000}, {2, 1, 10003, 10001}, {2, 1, 9998, 9999},
            {2, 1, 9997, 9999}, {2, 1, 9996, 9998}, {999, 1, 20000, 10010}, {999, 1, 19999, 10009}, {999, 1, 9999, 9999},
            {999, 9, 20000, 10089}, {1, 9, 20000, 19000}};
        for (int[] row : rows) {
            // CLAIMS come from as many risks as the exposure needs, each of one
            RateOffice x = Desk.office("base 10000;factor a 1;trust " + row[0] + ";");
            for (int i = 0; i < row[1]; i++) {
                x.risk(1, row[2], 1, 0);
            }
            due(x.turn(0), row[3] == 10000 ? 0 : 1);
            due(x.margin(0, 0, 0), row[3]);
        }
        // v is held by LOW, HIGH ahead of that: 10000 and half of -9000, and half of 40000
        RateOffice h = Desk.office("base 1000;trust 1;factor a 2;risk 1 0 1 0;risk 1 99999 1 1;");
        due(h.turn(0), 2);
        due(h.margin(0, 0, 0), 5500);
        due(h.margin(0, 1, 0), 30000);
        // an empty one, and one without premiums, stay
        RateOffice e = Desk.office("base 1;trust 1;factor a 3;risk 1 9 1 0;");
        e.relativity(0, 0, 9999);
        e.relativity(0, 1, 9999);
        due(e.turn(0), 0);
        // of all exposures together: 40 of 99, trust 1: 3960 by 3961
        RateOffice most = Desk.office("base 99999;trust 1;factor a 1;");
        for (int r = 0; r < 40; r++) {
            most.risk(99, 0, 1, 0);
        }
        due(most.turn(0), 1);
        due(most.margin(0, 0, 0), 10000 - 8998);
    }

    private static void rounds() {
        SHEET.sentence("A ROUND: a TURN for each FACTOR, by numbers.");
        // a takes 300 by 200, b finds 300 by 300 then; the other way round it would be b
        RateOffice x = Desk.office("base 100;factor a 1;factor b 1;risk 2 300 1 0 0;");
        due(x.round(1), 0);
        due(x.margin(0, 0, 0), 15000);
        due(x.margin(1, 0, 0), 10000);
        RateOffice four = Desk.office("base 100;factor a 1;factor b 1;factor c 1;factor d 1;band a 1 10000;"
                + "band b 1 10000;band c 1 10000;risk 2 300 1 0 0 0 0;");
        due(four.round(1), 0);
        due(four.margin(2, 0, 0), 10000);
        due(four.margin(3, 0, 0), 15000);

        SHEET.sentence("FITTED in n: after how many ROUNDS (0 on, n at most) all MARGINS of all FACTORS BALANCE first.");
        RateOffice f = Desk.office("base 100;bound 0;factor a 1;risk 1 200 1 0;");
        due(f.fitted(0), -2);
        due(f.fitted(1), 1);
        due(f.fitted(2), 1);
        f.round(1);
        due(f.fitted(0), 0);
        // all margins of one factor balance, those of the other don't
        RateOffice g = Desk.office("base 100;bound 0;factor a 1;factor b 2;risk 1 50 1 0 0;risk 1 150 1 0 1;");
        due(g.fitted(0), -2);
        due(g.fitted(1), 1);
    }

    private static void rebased() {
        SHEET.sentence("REBASED: BASE becomes BASE times WHOLE by PAID, downwards, 1 at least, 99999 at most (PAID 0, no"
                + " RISKS: it stays).");
        due(Desk.office("base 100;risk 3 299 1;").rebase(), 99);
        due(Desk.office("base 100;risk 3 300 1;").rebase(), 100);
        due(Desk.office("base 100;risk 3 301 1;").rebase(), 100);
        due(Desk.office("base 100;risk 3 303 1;").rebase(), 101);
        due(Desk.office("base 100;risk 1 1 1;").rebase(), 1);
        due(Desk.office("base 100;risk 2 1 1;").rebase(), 1);
        due(Desk.office("base 100;risk 99 0 1;").rebase(), 1);
        // it pays 1 of 2: twice the claims
        due(Desk.office("base 2;fleet 1 500;risk 1 49999 1;").rebase(), 99998);
        due(Desk.office("base 2;fleet 1 500;risk 1 50000 1;").rebase(), 99999);
        due(Desk.office("base 2;fleet 1 500;risk 1 99999 1;").rebase(), 99999);
        // 40 risks that pay 1 together, by a base of 9: 9 * 3999960 is far above
        RateOffice far = Desk.office("base 9;factor a 2;risk 1 99999 1 0;");
        far.relativity(0, 0, 1112);
        far.relativity(0, 1, 1000);
        for (int r = 1; r < 40; r++) {
            far.risk(1, 99999, 1, 1);
        }
        due(far.all(1), 1);
        due(far.rebase(), 99999);
        RateOffice nil = Desk.office("base 9;factor a 1;risk 1 99999 1 0;");
        nil.relativity(0, 0, 1000);
        due(nil.all(1), 0);
        due(nil.rebase(), 9);
        due(nil.count(2), 9);
        due(Desk.office("base 77;").rebase(), 77);
        due(new RateOffice().rebase(), 1000);
    }

    private static void levelled() {
        SHEET.sentence("LEVELLED: FACTOR by FACTOR, its CLASS with the most EXPOSURE (the first), RELATIVITY r");
        // as much exposure: the first one; an empty one ahead is none of them
        RateOffice tie = rated("risk 2 1 1 1;risk 2 1 1 2;", 20000, 5000, 25000);
        due(tie.level(), 500);
        due(tie.margin(0, 1, 0), 10000);
        // by exposure, not by risks
        RateOffice few = rated("risk 1 1 1 0;risk 1 1 1 0;risk 3 1 1 1;", 20000, 5000, 25000);
        due(few.level(), 500);
        // a class has the exposure of all its levels
        RateOffice joined = rated("risk 3 1 1 0;risk 2 1 1 1;risk 2 1 1 2;", 20000, 5000, 25000);
        due(joined.join(0, 1), 1);
        due(joined.level(), 500);
        due(joined.margin(0, 2, 0), 10000);
        due(joined.margin(0, 0, 0), 40000);
        // factor by factor: 1 * 0.5 is 0, so 1; 1 * 2 is 2; in one go it would be 1
        RateOffice two = Desk.office("base 1;factor a 1;factor b 1;risk 1 1 1 0 0;");
        two.relativity(0, 0, 5000);
        two.relativity(1, 0, 20000);
        due(two.level(), 2);
        due(two.margin(0, 0, 0), 10000);
        due(two.margin(1, 0, 0), 10000);

        // of four as of two
        RateOffice four = Desk.office("base 1000;factor a 6;factor b 6;factor c 6;factor d 6;risk 1 1 1 5 4 3 5;");
        four.relativity(0, 5, 20000);
        four.relativity(1, 4, 5000);
        four.relativity(2, 3, 30000);
        four.relativity(3, 5, 4000);
        due(four.level(), 1200);
        due(four.margin(0, 0, 0), 5000);
        due(four.margin(1, 0, 0), 20000);
        due(four.margin(2, 0, 0), 3333);
        due(four.margin(3, 0, 0), 25000);
        due(four.margin(3, 5, 0), 10000);

        SHEET.sentence("BASE becomes BASE times r by 10000, downwards (1 at least, 99999 at most)");
        int[][] rows = {{101, 15000, 151}, {1, 9999, 1}, {2, 5000, 1}, {3, 5000, 1}, {9, 1000, 1}, {10, 1000, 1},
            {33333, 30000, 99999}, {33334, 30000, 99999}, {99999, 10001, 99999}, {99999, 50000, 99999},
            {99999, 9999, 99989}, {1, 10000, 1}, {1, 50000, 5}};
        for (int[] row : rows) {
            RateOffice x = Desk.office("base " + row[0] + ";factor a 1;risk 1 1 1 0;");
            x.relativity(0, 0, row[1]);
            due(x.level(), row[2]);
            due(x.count(2), row[2]);
            due(x.margin(0, 0, 0), 10000);
        }
        RateOffice most = Desk.office("base 99999;factor a 1;band a 1 99999;risk 1 1 1 0;");
        most.relativity(0, 0, 99999);
        due(most.level(), 99999);

        SHEET.sentence("RELATIVITIES of all its CLASSES become themselves times 10000 by r, downwards, LOW at least, HIGH"
                + " at most (without RISKS: nothing).");
        // LOW 1000, HIGH 50000; empty classes, too
        RateOffice r = rated("risk 1 1 1 0;", 30000, 3000, 2999);
        due(r.level(), 3000);
        due(r.margin(0, 0, 0), 10000);
        due(r.margin(0, 1, 0), 1000);
        due(r.margin(0, 2, 0), 1000);
        RateOffice d = rated("risk 1 1 1 0;", 30000, 10000, 3300);
        d.level();
        due(d.margin(0, 1, 0), 3333);
        due(d.margin(0, 2, 0), 1100);
        RateOffice u = rated("risk 1 1 1 0;", 5000, 25000, 25001);
        u.level();
        due(u.margin(0, 1, 0), 50000);
        due(u.margin(0, 2, 0), 50000);
        RateOffice v = rated("risk 1 1 1 0;", 5000, 24999, 50000);
        v.level();
        due(v.margin(0, 1, 0), 49998);
        due(v.margin(0, 2, 0), 50000);
        // by the least r there is
        RateOffice least = Desk.office("base 99999;factor a 3;band a 1 99999;risk 2 0 1 0;risk 1 1 1 1;");
        least.relativity(0, 0, 1);
        least.relativity(0, 1, 3);
        least.relativity(0, 2, 10);
        due(least.level(), 9);
        due(least.margin(0, 0, 0), 10000);
        due(least.margin(0, 1, 0), 30000);
        due(least.margin(0, 2, 0), 99999);
        RateOffice none = rated("", 30000, 3000, 2999);
        due(none.level(), 1000);
        due(none.margin(0, 0, 0), 30000);
        due(none.margin(0, 1, 0), 3000);
        due(none.margin(0, 2, 0), 2999);
    }

    /** A factor of three levels with their relativities. */
    private static RateOffice rated(String risks, int r0, int r1, int r2) {
        RateOffice x = Desk.office("factor a 3;" + risks);
        x.relativity(0, 0, r0);
        x.relativity(0, 1, r1);
        x.relativity(0, 2, r2);
        return x;
    }

    private static void capped() {
        SHEET.sentence("PREMIUM times f by 10000, downwards, but no less than OLD less OLD times cap by 1000 (this"
                + " downwards), no more than OLD and OLD times cap by 1000 (likewise).");
        int[][] rows = {
            // PREMIUM, cap, OLD, CAPPED by 10000: the second risk wants more than there can be
            {99, 100, 111, 100}, {100, 100, 111, 100}, {101, 100, 111, 101}, {121, 100, 111, 121}, {122, 100, 111, 122},
            {123, 100, 111, 122}, {1, 100, 9, 9}, {99999, 100, 9, 9}, {1, 100, 10, 9}, {99999, 100, 10, 11},
            {1, 0, 99999, 99999}, {99999, 0, 1, 1}, {1, 999, 1, 1}, {99999, 999, 1, 1}, {99999, 999, 2, 3}, {1, 999, 2, 1},
            {1, 999, 1000, 1}, {99999, 999, 1000, 1999}, {1, 999, 99999, 100}, {99999, 999, 99999, 99999}};
        for (int[] row : rows) {
            RateOffice x = Desk.office("base " + row[0] + ";cap " + row[1] + ";risk 1 99999 " + row[2] + ";risk 1 99999 1;"
                    + "risk 1 99999 1;risk 1 99999 1;");
            due(x.offBalance(), -2);
            due(x.of(0, 4), row[3]);
        }
        // downwards by f: 3 * 1.3333 is 3, by 1.3334 it is 4
        RateOffice f = Desk.office("base 3;cap 999;risk 1 4 5;");
        due(f.offBalance(), 13334);
        due(f.of(0, 4), 4);
        f.claims(0, 3);
        due(f.offBalance(), 10000);
        due(f.of(0, 4), 3);
    }

    private static void offBalance() {
        SHEET.sentence("OFF-BALANCE: the least f 0 .. 99999 by which CAPPED ones of all RISKS together are WHOLE or"
                + " more.");
        // by 0 it is the lower end, 100
        RateOffice x = Desk.office("base 10000;cap 999;risk 1 100 99999;");
        due(x.offBalance(), 0);
        x.claims(0, 101);
        due(x.offBalance(), 101);
        x.claims(0, 99998);
        due(x.offBalance(), 99998);
        x.claims(0, 99999);
        due(x.offBalance(), 99999);
        // one more risk is 1 whatever f is: 100000 together
        x.risk(1, 1, 1, 0);
        due(x.offBalance(), 99999);
        x.claims(1, 2);
        due(x.offBalance(), -2);
        x.claims(1, 0);
        due(x.offBalance(), 99998);
        // the upper end: 110, by 11000 on
        RateOffice h = Desk.office("base 100;cap 100;risk 1 110 100;");
        due(h.offBalance(), 11000);
        h.claims(0, 111);
        due(h.offBalance(), -2);
        h.claims(0, 90);
        due(h.offBalance(), 0);
        h.claims(0, 91);
        due(h.offBalance(), 9100);
        // without premiums f does nothing
        RateOffice nil = Desk.office("base 1;cap 100;factor a 1;risk 1 90 100 0;");
        nil.relativity(0, 0, 1000);
        due(nil.offBalance(), 0);
        nil.claims(0, 91);
        due(nil.offBalance(), -2);
        due(new RateOffice().offBalance(), 0);
    }

    private static void changeAndMisfit() {
        SHEET.terms(3);
        SHEET.sentence("CAPPED by OFF-BALANCE (10000, if there is none), less OLD.");
        RateOffice x = Desk.office("base 100;cap 100;risk 1 110 100;risk 1 90 100;");
        due(x.offBalance(), 10000);
        due(x.of(0, 5), 0);
        x.claims(0, 120);
        due(x.offBalance(), 10500);
        due(x.of(1, 5), 5);
        x.claims(0, 131);
        due(x.offBalance(), -2);
        due(x.of(1, 5), 0);
        x.claims(0, 0);
        due(x.offBalance(), 0);
        due(x.of(0, 5), -10);

        SHEET.sentence("MISFIT: of all CLASSES that aren't EMPTY what CLAIMS and PREMIUMS differ by, together.");
        due(new RateOffice().all(3), 0);
        due(Desk.office("factor a 6;").all(3), 0);
        due(Desk.office("risk 1 5 1;").all(3), 0);
        // 30 too much, 20 too little, by two factors; joined they make 10
        RateOffice m = Desk.office("base 100;factor a 3;factor b 1;risk 1 130 1 0 0;risk 1 80 1 1 0;");
        due(m.all(3), 60);
        m.join(0, 0);
        due(m.all(3), 20);
    }

    private static void draws() {
        SHEET.sentence("DRAW: the last number (at first the seed) times 1103515245, and 12345 more, without what is above"
                + " 31 bits, is the next one; this by 65536, rounded down, modulo what is said, is drawn.");
        // from 2147483647: 1043980748 (15929.9 by 65536: risk 1 of 2), 288979989 (4409.5)
        RateOffice x = Desk.office("base 100;factor a 2;risk 1 100 1 0;risk 1 100 1 1;");
        due((2147483647L * 1103515245L + 12345) % (1L << 31), 1043980748);
        due((1043980748L * 1103515245L + 12345) % (1L << 31), 288979989);
        due(x.chance(2147483647, 1, 999, 0, 0), 309);
        due(x.chance(2147483647, 1, 4409, 0, 0), 4309);
        due(x.chance(2147483647, 1, 4408, 0, 0), 100);
        due(x.chance(2147483647, 1, 99999, 0, 0), 4309);
        // from 0: 12345 (0.2: risk 0), 1406932606 (21468.1)
        due((12345L * 1103515245L + 12345) % (1L << 31), 1406932606);
        due(x.chance(0, 1, 99999, 0, 0), 21368);

        SHEET.sentence("BY CHANCE: n times: a RISK (a DRAW modulo RISKS), CLAIMS (a DRAW modulo m and 1): these are its"
                + " CLAIMS then; behind all of them k ROUNDS.");
        // behind 21468 for risk 0: 654583775 (9988: of one risk it is that again), 1449466924 (22117)
        due((1406932606L * 1103515245L + 12345) % (1L << 31), 654583775);
        due((654583775L * 1103515245L + 12345) % (1L << 31), 1449466924);
        RateOffice one = Desk.office("base 100;bound 0;factor a 1;band a 1 99999;risk 1 100 1 0;");
        due(one.chance(0, 1, 99999, 0, 0), 21368);
        due(one.chance(0, 2, 99999, 0, 0), 22017);
        // modulo 1 there is 0 alone; modulo 2, of 21468 and 22117, 0 and 1
        due(one.chance(0, 1, 0, 0, 0), 100);
        due(one.chance(0, 1, 1, 0, 0), 100);
        due(one.chance(0, 2, 1, 0, 0), 99);
        due(one.chance(0, 60, 0, 0, 1), 100);
        // a round behind all of them takes 100 to 999 (HIGH) by 22117, not by what was drawn ahead of it
        due(one.chance(0, 2, 99999, 1, 1), 999);
        due(one.chance(0, 2, 150, 1, 1), 22117 % 151);
        due(one.chance(0, 2, 150, 0, 1), 100);
    }
}
