/** Each sentence about calls that tell what would be that names a boundary case: promises 36 to 41. */
public final class WouldBoundsTest {
    private static final Sheet SHEET = new Sheet("WouldBoundsTest");
    private static final int[] NO_FACTORS = {-1, 3, 4, 8, Integer.MIN_VALUE, Integer.MAX_VALUE};
    private static final int[] NO_ROUNDS = {-1, 51, 100, Integer.MIN_VALUE, Integer.MAX_VALUE};
    private static final int[] ROUNDS = {0, 1, 2, 49, 50};

    public static void main(String[] args) {
        withoutFactor();
        bestJoin();
        withoutRisk();
        quote();
        kinds();
        chance();
        SHEET.end();
    }

    private static void due(long got, long want) {
        SHEET.due(got, want);
    }

    /** Each round of it can be told from the next one, and none of its factors balances soon. */
    private static RateOffice slow() {
        RateOffice x = Desk.office("base 10000;trust 200;bound 0;seed 77;factor a 3;factor b 4;factor c 1;join b 1;"
                + "risk 1 90000 100 0 0 0;risk 2 1000 100 1 1 0;risk 3 40000 100 2 2 0;risk 2 70000 100 0 3 0;"
                + "risk 1 30000 100 1 0 0;");
        x.relativity(0, 0, 12000);
        x.relativity(0, 2, 20000);
        x.relativity(1, 1, 7000);
        return x;
    }

    private static void withoutFactor() {
        SHEET.promise(36);
        SHEET.sentence("MISFIT behind n 0 .. 50 ROUNDS from now on, if a FACTOR's RELATIVITIES were 10000 and stayed so");
        for (int f = 0; f < 3; f++) {
            for (int n : ROUNDS) {
                RateOffice x = slow();
                for (int l = 0; l < x.factor(f, 0); l++) {
                    x.relativity(f, l, 10000);
                }
                for (int i = 0; i < n; i++) {
                    for (int g = 0; g < 3; g++) {
                        if (g != f) {
                            x.turn(g);
                        }
                    }
                }
                due(slow().withoutFactor(f, n), x.all(3));
            }
        }
        SHEET.holds(slow().withoutFactor(0, 49) != slow().withoutFactor(0, 50), "the fiftieth round can be told");
        SHEET.holds(slow().withoutFactor(0, 0) != slow().all(3), "the factor can be told");
        unchanged("withoutFactor", slow().withoutFactor(0, 50), x -> x.withoutFactor(0, 50));
        due(Desk.office("factor a 1;").withoutFactor(0, 50), 0);

        SHEET.sentence("NONE: no such ones.");
        for (int n : NO_ROUNDS) {
            due(slow().withoutFactor(0, n), -1);
        }
        for (int f : NO_FACTORS) {
            due(slow().withoutFactor(f, 0), -1);
            due(slow().withoutFactor(f, 51), -1);
        }
        due(new RateOffice().withoutFactor(0, 0), -1);
    }

    private interface Call {
        long on(RateOffice x);
    }

    private static void unchanged(String name, long want, Call call) {
        RateOffice x = slow();
        due(call.on(x), want);
        due(call.on(x), want);
        due(x.count(7), 3);
        SHEET.same(name + Desk.picture(x), name + Desk.picture(slow()));
    }

    private static void bestJoin() {
        SHEET.promise(37);
        SHEET.sentence("The LEVEL of a FACTOR that isn't JOINED with the next one by whose being so, then n 0 .. 50 ROUNDS,"
                + " MISFIT is least, the first");
        for (int f = 0; f < 2; f++) {
            for (int n : ROUNDS) {
                int best = -2;
                long least = 0;
                for (int l = 0; l + 1 < slow().factor(f, 0); l++) {
                    RateOffice x = slow();
                    if (x.join(f, l) == 1) {
                        x.round(n);
                        if (best == -2 || x.all(3) < least) {
                            least = x.all(3);
                            best = l;
                        }
                    }
                }
                due(slow().bestJoin(f, n), best);
            }
        }
        unchanged("bestJoin", slow().bestJoin(1, 50), x -> x.bestJoin(1, 50));
        // as good as each other: the first; without risks, too
        due(Desk.office("base 100;factor a 4;risk 1 100 1 0;risk 1 100 1 1;risk 1 100 1 2;").bestJoin(0, 0), 0);
        due(Desk.office("factor a 6;").bestJoin(0, 50), 0);
        due(Desk.office("factor a 6;join a 0;join a 1;").bestJoin(0, 0), 2);
        due(Desk.office("factor a 2;").bestJoin(0, 0), 0);
        // the last but one is the best: off by 50 and 50 otherwise
        RateOffice last = Desk.office("base 100;factor a 6;risk 1 100 1 0;risk 1 100 1 1;risk 1 100 1 2;risk 1 100 1 3;"
                + "risk 1 150 1 4;risk 1 50 1 5;");
        due(last.bestJoin(0, 0), 4);
        // rounds make good what no join does: by none it is 1 (200 and 0), by one all are as good
        RateOffice r = Desk.office("base 100;factor a 3;risk 1 100 1 0;risk 1 200 1 1;risk 1 50 1 2;");
        due(r.bestJoin(0, 0), 1);
        due(r.bestJoin(0, 1), 0);
        // both take the relativity of the lower one: 20000 is too much for the second of 0 and 1
        RateOffice lower = Desk.office("base 100;factor a 3;risk 1 200 1 0;risk 1 100 1 1;risk 1 50 1 2;");
        lower.relativity(0, 0, 20000);
        lower.relativity(0, 2, 5000);
        due(lower.bestJoin(0, 0), 1);

        SHEET.sentence("-2: there is none");
        due(Desk.office("factor a 1;").bestJoin(0, 0), -2);
        due(Desk.office("factor a 1;").bestJoin(0, 50), -2);
        due(Desk.office("factor a 2;join a 0;").bestJoin(0, 0), -2);
        due(Desk.office("factor a 6;join a 0;join a 1;join a 2;join a 3;join a 4;").bestJoin(0, 3), -2);

        SHEET.sentence("NONE: no such ones.");
        for (int n : NO_ROUNDS) {
            due(slow().bestJoin(0, n), -1);
            due(Desk.office("factor a 1;").bestJoin(0, n), -1);
        }
        for (int f : NO_FACTORS) {
            due(slow().bestJoin(f, 0), -1);
        }
        due(new RateOffice().bestJoin(0, 0), -1);
    }

    private static void withoutRisk() {
        SHEET.promise(38);
        SHEET.sentence("BASE, if a RISK were gone, behind n 0 .. 50 ROUNDS and REBASED");
        for (int r = 0; r < 5; r++) {
            for (int n : ROUNDS) {
                RateOffice x = slow();
                x.drop(r);
                x.round(n);
                due(slow().withoutRisk(r, n), x.rebase());
            }
        }
        SHEET.holds(slow().withoutRisk(0, 49) != slow().withoutRisk(0, 50), "the fiftieth round can be told");
        unchanged("withoutRisk", slow().withoutRisk(4, 50), x -> x.withoutRisk(4, 50));
        // the only one: BASE stays
        due(Desk.office("base 77;risk 1 5 1;").withoutRisk(0, 0), 77);
        due(Desk.office("base 77;factor a 2;risk 1 5 1 0;").withoutRisk(0, 50), 77);
        // 1 at least, 99999 at most
        due(Desk.office("base 77;risk 1 5 1;risk 1 0 1;").withoutRisk(0, 0), 1);
        due(Desk.office("base 2;fleet 1 500;risk 1 5 1;risk 1 99999 1;").withoutRisk(0, 0), 99999);

        SHEET.sentence("NONE: no such ones.");
        for (int n : NO_ROUNDS) {
            due(slow().withoutRisk(0, n), -1);
        }
        for (int r : new int[] {-1, 5, 39, 40, Integer.MIN_VALUE, Integer.MAX_VALUE}) {
            due(slow().withoutRisk(r, 0), -1);
        }
        due(new RateOffice().withoutRisk(0, 0), -1);
    }

    private static void quote() {
        SHEET.promise(39);
        SHEET.sentence("PREMIUM of a RISK that had an EXPOSURE 1 .. 99 and LEVELS as in risk()");
        RateOffice x = slow();
        x.fleet(50, 125);
        for (int e : new int[] {1, 49, 50, 99}) {
            for (int levels : new int[] {0, 1, 2, 8, 16, 24, 26}) {
                int r = x.risk(e, 1, 1, levels);
                long premium = x.of(r, 3);
                x.undo();
                due(x.quote(e, levels), premium);
            }
        }
        due(x.quote(1, 2), 20000);
        due(x.quote(50, 0), 600000 - 75000);
        due(new RateOffice().quote(1, 0), 1000);
        due(new RateOffice().quote(99, 0), 99000);
        due(x.count(1), 5);
        // as many as there can be are no hindrance
        RateOffice full = Desk.office(Desk.times(40, "risk 1 1 1;"));
        due(full.quote(1, 0), 1000);

        SHEET.sentence("NONE: no such ones.");
        for (int e : new int[] {0, 100, -1, Integer.MIN_VALUE, Integer.MAX_VALUE}) {
            due(x.quote(e, 0), -1);
        }
        for (int levels : new int[] {3, 7, 32, 56, 64, 512, 4096, -1, -8, Integer.MIN_VALUE, Integer.MAX_VALUE}) {
            due(x.quote(1, levels), -1);
        }
        due(new RateOffice().quote(1, 1), -1);
        due(new RateOffice().quote(1, 4096), -1);
    }

    private static void kinds() {
        SHEET.promise(40);
        SHEET.sentence("How many kinds of RISKS there could be by LEVELS (what 0), of these without any RISK (1)");
        RateOffice x = slow();
        due(x.kinds(0), 12);
        due(x.kinds(1), 7);
        // by levels, joined or not
        x.join(0, 0);
        due(x.kinds(0), 12);
        due(x.kinds(1), 7);
        x.risk(9, 9, 9, 0);
        due(x.kinds(1), 7);
        x.risk(9, 9, 9, 8);
        due(x.kinds(1), 6);
        RateOffice none = new RateOffice();
        due(none.kinds(0), 1);
        due(none.kinds(1), 1);
        none.risk(1, 1, 1, 0);
        due(none.kinds(1), 0);
        RateOffice all = Desk.office("factor a 1;factor b 2;risk 1 1 1 0 0;risk 1 1 1 0 1;risk 2 1 1 0 1;");
        due(all.kinds(0), 2);
        due(all.kinds(1), 0);
        RateOffice most = Desk.office("factor a 6;factor b 6;factor c 6;factor d 6;");
        due(most.kinds(0), 1296);
        for (int r = 0; r < 40; r++) {
            most.risk(1, 1, 1, r % 6 | r / 6 % 6 << 9);
        }
        due(most.kinds(1), 1296 - 36);

        SHEET.sentence("NONE for another what.");
        for (int what : new int[] {-1, 2, Integer.MIN_VALUE, Integer.MAX_VALUE}) {
            due(x.kinds(what), -1);
            due(new RateOffice().kinds(what), -1);
        }
    }

    /** The same by other calls: claims drawn one by one, then rounds. */
    private static RateOffice drawn(long seed, int n, int m, int k) {
        RateOffice x = slow();
        long last = seed;
        for (int i = 0; i < n; i++) {
            last = (last * 1103515245L + 12345) % (1L << 31);
            int risk = (int) (last / 65536 % 5);
            last = (last * 1103515245L + 12345) % (1L << 31);
            x.claims(risk, (int) (last / 65536 % (m + 1)));
        }
        for (int i = 0; i < k; i++) {
            x.round(1);
        }
        return x;
    }

    private static void chance() {
        SHEET.promise(41);
        SHEET.sentence("BY CHANCE n 1 .. 60, m 0 .. 99999, k 0 .. 20 from a seed 0 .. 2147483647 on (-1: that of the TEXT),"
                + " what 0 MISFIT, 1 PAID, 2 how many MARGINS (not EMPTY) don't BALANCE then");
        for (int seed : new int[] {-1, 0, 1, 77, 2147483646, 2147483647}) {
            for (int n : new int[] {1, 2, 59, 60}) {
                for (int m : new int[] {0, 1, 1000, 32766, 99998, 99999}) {
                    for (int k : new int[] {0, 1, 19, 20}) {
                        RateOffice x = drawn(seed < 0 ? 77 : seed, n, m, k);
                        due(slow().chance(seed, n, m, k, 0), x.all(3));
                        due(slow().chance(seed, n, m, k, 1), x.all(1));
                        due(slow().chance(seed, n, m, k, 2), x.unbalanced());
                    }
                }
            }
        }
        SHEET.holds(drawn(1, 59, 1000, 0).all(3) != drawn(1, 60, 1000, 0).all(3), "the sixtieth draw can be told");
        SHEET.holds(drawn(1, 9, 1000, 19).all(3) != drawn(1, 9, 1000, 20).all(3), "the twentieth round can be told");
        unchanged("chance", slow().chance(5, 60, 99999, 20, 0), x -> x.chance(5, 60, 99999, 20, 0));

        SHEET.sentence("NONE: no such ones, no RISKS.");
        RateOffice x = slow();
        for (int seed : new int[] {-2, -3, Integer.MIN_VALUE}) {
            due(x.chance(seed, 1, 1, 1, 0), -1);
        }
        for (int n : new int[] {0, 61, -1, Integer.MIN_VALUE, Integer.MAX_VALUE}) {
            due(x.chance(1, n, 1, 1, 0), -1);
        }
        for (int m : new int[] {-1, 100000, Integer.MIN_VALUE, Integer.MAX_VALUE}) {
            due(x.chance(1, 1, m, 1, 0), -1);
        }
        for (int k : new int[] {-1, 21, 50, Integer.MIN_VALUE, Integer.MAX_VALUE}) {
            due(x.chance(1, 1, 1, k, 0), -1);
        }
        for (int what : new int[] {-1, 3, Integer.MIN_VALUE, Integer.MAX_VALUE}) {
            due(x.chance(1, 1, 1, 1, what), -1);
        }
        for (int what = 0; what < 3; what++) {
            due(new RateOffice().chance(0, 1, 1, 1, what), -1);
            due(Desk.office("factor a 2;").chance(-1, 1, 1, 0, what), -1);
        }
        // with risks, but without factors, it holds
        due(Desk.office("base 5;risk 1 1 1;").chance(0, 1, 1, 1, 1), 5);
        due(Desk.office("base 5;risk 1 1 1;").chance(0, 1, 1, 1, 0), 0);
    }
}
