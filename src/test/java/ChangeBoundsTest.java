/** Each sentence about calls that change something that names a boundary case: promises 6 to 17. */
public final class ChangeBoundsTest {
    private static final Sheet SHEET = new Sheet("ChangeBoundsTest");
    private static final int[] NO_FACTORS = {-1, 2, 3, 4, 8, 32, Integer.MIN_VALUE, Integer.MAX_VALUE};

    // Two factors of three and two levels; a pays 100, 200, nothing; b is off.
    private static final String TWO = "base 100;factor a 3;factor b 2;band b 5000 20000;risk 1 200 100 0 0;"
            + "risk 2 100 150 1 1;";

    public static void main(String[] args) {
        turn();
        round();
        rebaseAndLevel();
        relativity();
        claims();
        risk();
        drop();
        join();
        cap();
        trust();
        fleet();
        SHEET.end();
    }

    private static void due(long got, long want) {
        SHEET.due(got, want);
    }

    private static void turn() {
        SHEET.promise(6);
        SHEET.sentence("how many RELATIVITIES of its CLASSES are others then");
        RateOffice x = Desk.office("base 100;factor a 6;join a 0;join a 1;risk 1 200 1 0;risk 1 200 1 2;"
                + "risk 1 100 1 3;risk 1 50 1 4;");
        // a class of three counts once, what stays and what is empty not at all
        due(x.turn(0), 2);
        due(x.turn(0), 0);
        due(x.count(7), 2);
        RateOffice six = Desk.office("base 100;factor a 6;risk 1 200 1 0;risk 1 200 1 1;risk 1 200 1 2;risk 1 200 1 3;"
                + "risk 1 200 1 4;risk 1 200 1 5;");
        due(six.turn(0), 6);
        due(Desk.office("factor a 6;").turn(0), 0);

        SHEET.sentence("NONE: no such FACTOR.");
        for (int f : NO_FACTORS) {
            RateOffice y = Desk.office(TWO);
            due(y.turn(f), -1);
            due(y.count(7), 0);
            SHEET.same(Desk.picture(y), Desk.picture(Desk.office(TWO)));
        }
        due(new RateOffice().turn(0), -1);
        due(Desk.office(TWO).turn(0), 2);
        due(Desk.office(TWO).turn(1), 2);
    }

    /** Its relativity goes on by a thousandth of the way at a time, so that each round can be told from the next. */
    private static RateOffice slow() {
        return Desk.office("base 100;trust 999;bound 0;factor a 2;factor b 2;risk 1 900 100 0 0;risk 1 10 100 1 0;");
    }

    /** What so many rounds of it come to, turn by turn. */
    private static String turned(int rounds) {
        RateOffice x = slow();
        for (int n = 0; n < rounds; n++) {
            x.turn(0);
            x.turn(1);
        }
        return Desk.picture(x);
    }

    private static void round() {
        SHEET.promise(7);
        SHEET.sentence("n 1 .. 50 ROUNDS: how many MARGINS (CLASSES that aren't EMPTY) don't BALANCE then");
        SHEET.differ(turned(49), turned(50));
        SHEET.differ(turned(50), turned(51));
        for (int n : new int[] {1, 2, 49, 50}) {
            RateOffice x = slow();
            due(x.round(n), 3);
            due(x.count(7), 1);
            SHEET.same(Desk.picture(x), turned(n));
        }
        // empty ones are none of them
        due(Desk.office("factor a 6;factor b 6;bound 0;").round(50), 0);
        due(new RateOffice().round(1), 0);
        due(new RateOffice().round(50), 0);
        due(Desk.office("base 100;factor a 1;risk 1 200 1 0;").round(1), 0);

        SHEET.sentence("NONE: no such n.");
        for (int n : new int[] {0, 51, -1, 100, Integer.MIN_VALUE, Integer.MAX_VALUE}) {
            RateOffice y = slow();
            due(y.round(n), -1);
            due(y.count(7), 0);
            SHEET.same(Desk.picture(y), Desk.picture(slow()));
        }
    }

    private static void rebaseAndLevel() {
        SHEET.promise(8);
        SHEET.sentence("REBASED: BASE then.");
        RateOffice x = Desk.office(TWO);
        due(x.rebase(), 100);
        x.claims(0, 0);
        due(x.rebase(), 33);
        due(x.count(2), 33);
        // nothing comes of it, but it isn't refused
        RateOffice e = new RateOffice();
        due(e.rebase(), 1000);
        due(e.count(7), 1);

        SHEET.promise(9);
        SHEET.sentence("LEVELLED: BASE then.");
        RateOffice y = Desk.office(TWO);
        y.relativity(0, 1, 15000);
        y.relativity(1, 1, 20000);
        due(y.level(), 300);
        due(y.count(2), 300);
        due(y.margin(0, 1, 0), 10000);
        due(y.margin(0, 0, 0), 6666);
        RateOffice n = new RateOffice();
        due(n.level(), 1000);
        due(n.count(7), 1);
        due(Desk.office("base 7;risk 1 1 1;").level(), 7);
        due(Desk.office("base 7;factor a 1;").level(), 7);
    }

    private static void relativity() {
        SHEET.promise(10);
        SHEET.sentence("The RELATIVITY of the CLASS of a LEVEL becomes v, LOW .. HIGH: what it was");
        RateOffice x = Desk.office("factor a 3;factor b 6;band b 5000 20000;join b 1;join b 4;");
        due(x.relativity(1, 2, 5000), 10000);
        due(x.relativity(1, 1, 20000), 5000);
        due(x.relativity(1, 5, 5001), 10000);
        due(x.relativity(1, 0, 19999), 10000);
        int[] rates = {19999, 20000, 20000, 10000, 5001, 5001};
        for (int l = 0; l < 6; l++) {
            due(x.margin(1, l, 0), rates[l]);
        }
        due(x.relativity(0, 0, 1000), 10000);
        due(x.relativity(0, 2, 50000), 10000);
        due(x.relativity(0, 2, 50000), 50000);
        due(x.count(7), 7);
        RateOffice wide = Desk.office("factor a 1;band a 1 99999;");
        due(wide.relativity(0, 0, 1), 10000);
        due(wide.relativity(0, 0, 99999), 1);
        RateOffice narrow = Desk.office("factor a 1;band a 10000 10000;");
        due(narrow.relativity(0, 0, 10000), 10000);
        due(narrow.relativity(0, 0, 9999), -1);
        due(narrow.relativity(0, 0, 10001), -1);

        SHEET.sentence("NONE: no such ones.");
        RateOffice y = Desk.office(TWO);
        for (int f : NO_FACTORS) {
            due(y.relativity(f, 0, 10000), -1);
        }
        for (int l : new int[] {-1, 3, 6, 7, 8, Integer.MIN_VALUE, Integer.MAX_VALUE}) {
            due(y.relativity(0, l, 10000), -1);
        }
        due(y.relativity(1, 2, 10000), -1);
        for (int v : new int[] {4999, 20001, 0, -1, 10000 + 65536, Integer.MIN_VALUE, Integer.MAX_VALUE}) {
            due(y.relativity(1, 1, v), -1);
        }
        due(y.relativity(0, 0, 999), -1);
        due(y.relativity(0, 0, 50001), -1);
        due(y.count(7), 0);
        SHEET.same(Desk.picture(y), Desk.picture(Desk.office(TWO)));
        due(new RateOffice().relativity(0, 0, 10000), -1);
    }

    private static void claims() {
        SHEET.promise(11);
        SHEET.sentence("CLAIMS of a RISK become 0 .. 99999: what they were");
        RateOffice x = Desk.office(TWO);
        due(x.claims(1, 99999), 100);
        due(x.of(1, 1), 99999);
        due(x.claims(1, 0), 99999);
        due(x.of(1, 1), 0);
        due(x.of(0, 1), 200);
        due(x.claims(1, 0), 0);
        due(x.count(7), 3);

        SHEET.sentence("NONE: no such ones.");
        RateOffice y = Desk.office(TWO);
        for (int r : new int[] {-1, 2, 39, 40, 41, Integer.MIN_VALUE, Integer.MAX_VALUE}) {
            due(y.claims(r, 5), -1);
        }
        for (int v : new int[] {-1, 100000, 131072, Integer.MIN_VALUE, Integer.MAX_VALUE}) {
            due(y.claims(0, v), -1);
        }
        due(y.count(7), 0);
        SHEET.same(Desk.picture(y), Desk.picture(Desk.office(TWO)));
        due(new RateOffice().claims(0, 5), -1);
    }

    private static void risk() {
        SHEET.promise(12);
        SHEET.sentence("of FACTOR 0 levels modulo 8, of 1 levels by 8 modulo 8, and so on (0 of FACTORS there aren't): its"
                + " number");
        RateOffice x = Desk.office("factor a 6;factor b 5;factor c 4;factor d 3;");
        due(x.risk(99, 99999, 99999, 5 + 8 * 4 + 64 * 3 + 512 * 2), 0);
        due(x.risk(1, 0, 1, 0), 1);
        due(x.risk(1, 0, 1, 64), 2);
        long[][] want = {{99, 99999, 99999, 5, 4, 3, 2}, {1, 0, 1, 0, 0, 0, 0}, {1, 0, 1, 0, 0, 1, 0}};
        for (int r = 0; r < 3; r++) {
            for (int i = 0; i < 7; i++) {
                due(x.of(r, i < 3 ? i : i + 3), want[r][i]);
            }
        }
        due(x.count(7), 3);
        // 0 of each factor there isn't, however many there are
        int[] beyond = {1, 8, 64, 512, 4096, 1 << 15, 1 << 30};
        String text = "";
        for (int n = 0; n <= 4; n++) {
            RateOffice y = Desk.office(text);
            for (int i = 0; i < beyond.length; i++) {
                due(y.risk(1, 1, 1, beyond[i]), i < n ? i : -1);
                due(y.quote(1, beyond[i]), i < n ? 1000 : -1);
            }
            due(y.risk(1, 1, 1, 0), n);
            text += "factor " + "abcd".charAt(n % 4) + " 2;";
        }

        SHEET.sentence("NONE: no such ones");
        RateOffice y = Desk.office(TWO);
        for (int e : new int[] {0, 100, -1, Integer.MIN_VALUE, Integer.MAX_VALUE}) {
            due(y.risk(e, 1, 1, 0), -1);
        }
        for (int v : new int[] {-1, 100000, Integer.MIN_VALUE, Integer.MAX_VALUE}) {
            due(y.risk(1, v, 1, 0), -1);
            due(y.risk(1, 1, v, 0), -1);
        }
        due(y.risk(1, 1, 0, 0), -1);
        // no level 3 to 7 of a, none 2 to 7 of b
        for (int l = 0; l < 8; l++) {
            if (l > 2) {
                due(y.risk(1, 1, 1, l), -1);
                due(y.risk(1, 1, 1, l + 8), -1);
            }
            if (l > 1) {
                due(y.risk(1, 1, 1, 8 * l), -1);
                due(y.risk(1, 1, 1, 8 * l + 2), -1);
            }
        }
        for (int levels : new int[] {-1, -8, -64, Integer.MIN_VALUE, Integer.MIN_VALUE + 1, Integer.MAX_VALUE}) {
            due(y.risk(1, 1, 1, levels), -1);
            due(new RateOffice().risk(1, 1, 1, levels), -1);
        }
        due(y.count(7), 0);
        SHEET.same(Desk.picture(y), Desk.picture(Desk.office(TWO)));

        SHEET.sentence("-2: there are 40.");
        RateOffice full = full();
        due(full.risk(1, 1, 1, 0), -2);
        due(full.risk(99, 99999, 99999, 0), -2);
        // NONE goes first
        due(full.risk(0, 1, 1, 0), -1);
        due(full.risk(1, -1, 1, 0), -1);
        due(full.risk(1, 1, 0, 0), -1);
        due(full.risk(1, 1, 1, 3), -1);
        due(full.count(1), 40);
        due(full.count(7), 20);
        SHEET.same(Desk.picture(full), Desk.picture(full()));
        RateOffice again = full();
        due(again.drop(7), 39);
        due(again.risk(1, 1, 1, 0), 39);
        due(again.risk(1, 1, 1, 0), -2);
        due(Desk.office(Desk.times(40, "risk 1 1 1;")).risk(1, 1, 1, 0), -2);
        due(Desk.office(Desk.times(39, "risk 1 1 1;")).risk(1, 1, 1, 0), 39);
    }

    private static RateOffice full() {
        RateOffice x = Desk.office(TWO);
        for (int r = 2; r < 40; r++) {
            due(x.risk(1, r, 1, r % 3), r);
        }
        return x;
    }

    private static void drop() {
        SHEET.promise(13);
        SHEET.sentence("A RISK goes: how many are left");
        RateOffice x = Desk.office("risk 1 1 1;risk 2 2 2;risk 3 3 3;");
        due(x.drop(2), 2);
        due(x.of(2, 0), -999999999);
        due(x.drop(0), 1);
        due(x.of(0, 0), 2);
        due(x.drop(0), 0);
        due(x.count(7), 3);
        RateOffice full = new RateOffice();
        for (int r = 0; r < 40; r++) {
            full.risk(1 + r, r, 1 + r, 0);
        }
        due(full.drop(39), 39);
        due(full.drop(0), 38);
        for (int r = 0; r < 38; r++) {
            due(full.of(r, 0), r + 2);
            due(full.of(r, 1), r + 1);
            due(full.of(r, 2), r + 2);
        }
        due(full.of(38, 0), -999999999);

        SHEET.sentence("NONE: no such RISK.");
        due(x.drop(0), -1);
        due(x.count(7), 3);
        RateOffice y = Desk.office(TWO);
        for (int r : new int[] {-1, 2, 40, Integer.MIN_VALUE, Integer.MAX_VALUE}) {
            due(y.drop(r), -1);
        }
        due(y.count(7), 0);
        SHEET.same(Desk.picture(y), Desk.picture(Desk.office(TWO)));
        due(new RateOffice().drop(0), -1);
    }

    private static void join() {
        SHEET.promise(14);
        SHEET.sentence("A LEVEL is JOINED with the next one, or, if it is, isn't any more: whether it is then (1, 0;");
        RateOffice x = Desk.office("factor z 6;factor a 6;factor b 6;join a 3;");
        due(x.join(1, 0), 1);
        due(x.join(1, 4), 1);
        due(x.factor(1, 3), 3);
        due(x.margin(1, 0, 2), 1);
        due(x.margin(1, 5, 1), 3);
        due(x.join(1, 3), 0);
        due(x.margin(1, 3, 2), 3);
        due(x.margin(1, 4, 2), 5);
        due(x.join(1, 0), 0);
        due(x.join(1, 0), 1);
        due(x.factor(0, 3), 6);
        due(x.factor(2, 3), 6);
        due(x.count(7), 5);
        due(Desk.office("factor a 2;").join(0, 0), 1);

        SHEET.sentence("as it comes to be, both CLASSES have the RELATIVITY of the lower one");
        RateOffice y = rated();
        due(y.join(0, 0), 1);
        due(y.join(0, 3), 1);
        due(y.join(0, 4), 1);
        rates(y, 11000, 11000, 13000, 14000, 14000, 14000);
        // a class of two ahead of one of three, with one in between
        due(y.join(0, 2), 1);
        rates(y, 11000, 11000, 13000, 13000, 13000, 13000);
        due(y.join(0, 1), 1);
        rates(y, 11000, 11000, 11000, 11000, 11000, 11000);

        SHEET.sentence("as it isn't any more, both have what they had");
        due(y.join(0, 2), 0);
        rates(y, 11000, 11000, 11000, 11000, 11000, 11000);
        due(y.relativity(0, 5, 12000), 11000);
        rates(y, 11000, 11000, 11000, 12000, 12000, 12000);
        due(y.join(0, 3), 0);
        rates(y, 11000, 11000, 11000, 12000, 12000, 12000);
        due(y.margin(0, 3, 1), 3);
        due(y.margin(0, 3, 2), 3);
        due(y.margin(0, 4, 1), 4);

        SHEET.sentence("NONE: no such ones, the last LEVEL.");
        RateOffice z = Desk.office("factor a 3;factor b 1;factor c 6;");
        String picture = Desk.picture(z);
        for (int f : new int[] {-1, 3, 4, Integer.MIN_VALUE, Integer.MAX_VALUE}) {
            due(z.join(f, 0), -1);
        }
        for (int l : new int[] {-1, 2, 3, 5, 8, Integer.MIN_VALUE, Integer.MAX_VALUE}) {
            due(z.join(0, l), -1);
        }
        due(z.join(1, 0), -1);
        due(z.join(2, 5), -1);
        due(z.join(2, 6), -1);
        due(z.join(2, 7), -1);
        due(z.count(7), 0);
        SHEET.same(Desk.picture(z), picture);
        due(z.join(0, 1), 1);
        due(z.join(2, 4), 1);
        due(new RateOffice().join(0, 0), -1);
    }

    private static RateOffice rated() {
        RateOffice x = Desk.office("factor a 6;");
        for (int l = 0; l < 6; l++) {
            x.relativity(0, l, 11000 + 1000 * l);
        }
        return x;
    }

    private static void rates(RateOffice x, int... want) {
        for (int l = 0; l < want.length; l++) {
            due(x.margin(0, l, 0), want[l]);
        }
    }

    private static void cap() {
        SHEET.promise(15);
        SHEET.sentence("cap becomes 0 .. 999: what it was");
        RateOffice x = Desk.office(TWO);
        due(x.cap(0), 250);
        due(x.count(4), 0);
        due(x.cap(999), 0);
        due(x.count(4), 999);
        due(x.cap(999), 999);
        due(x.count(7), 3);

        SHEET.sentence("NONE: no such one.");
        for (int v : new int[] {-1, 1000, Integer.MIN_VALUE, Integer.MAX_VALUE}) {
            due(x.cap(v), -1);
            due(x.count(4), 999);
        }
        due(x.count(7), 3);
    }

    private static void trust() {
        SHEET.promise(16);
        SHEET.sentence("trust becomes 0 .. 999: what it was");
        RateOffice x = Desk.office(TWO);
        due(x.trust(999), 0);
        due(x.count(9), 999);
        due(x.trust(0), 999);
        due(x.count(9), 0);
        due(x.trust(0), 0);
        due(x.count(7), 3);

        SHEET.sentence("NONE: no such one.");
        for (int v : new int[] {-1, 1000, Integer.MIN_VALUE, Integer.MAX_VALUE}) {
            due(x.trust(v), -1);
            due(x.count(9), 0);
        }
        due(x.count(7), 3);
    }

    private static void fleet() {
        SHEET.promise(17);
        SHEET.sentence("SIZE 1 .. 99, OFF 0 .. 500 become others: how many RISKS have an EXPOSURE of SIZE or more then");
        RateOffice x = Desk.office("risk 1 1 1;risk 98 1 1;risk 99 1 1;");
        due(x.fleet(1, 500), 3);
        due(x.count(10), 1);
        due(x.count(11), 500);
        due(x.fleet(2, 0), 2);
        due(x.fleet(98, 0), 2);
        due(x.fleet(99, 0), 1);
        due(x.count(10), 99);
        due(x.count(11), 0);
        due(x.fleet(99, 0), 1);
        due(x.count(7), 5);
        due(new RateOffice().fleet(1, 500), 0);
        // those that are gone are none of them; as many as there can be
        RateOffice gone = Desk.office("risk 1 1 1;risk 2 1 1;");
        gone.drop(1);
        due(gone.fleet(1, 0), 1);
        due(Desk.office(Desk.times(40, "risk 1 1 1;")).fleet(1, 0), 40);

        SHEET.sentence("NONE: no such ones.");
        for (int v : new int[] {0, 100, -1, Integer.MIN_VALUE, Integer.MAX_VALUE}) {
            due(x.fleet(v, 1), -1);
        }
        for (int v : new int[] {-1, 501, 1000, Integer.MIN_VALUE, Integer.MAX_VALUE}) {
            due(x.fleet(1, v), -1);
        }
        due(x.count(10), 99);
        due(x.count(11), 0);
        due(x.count(7), 5);
    }
}
