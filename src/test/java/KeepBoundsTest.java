import java.util.ArrayList;
import java.util.List;

/** Each sentence about undoing, images and refused calls that names a boundary case: terms 4, promises 42 to 45. */
public final class KeepBoundsTest {
    private static final Sheet SHEET = new Sheet("KeepBoundsTest");

    public static void main(String[] args) {
        manyCalls();
        canBeUndone();
        atMostTwenty();
        imageKeeps();
        order();
        refused();
        dropped();
        undo();
        keep();
        back();
        count();
        SHEET.end();
    }

    private static void due(long got, long want) {
        SHEET.due(got, want);
    }

    private interface Call {
        long on(RateOffice x);
    }

    /** An office on which each call that changes something does so. */
    private static RateOffice rich() {
        RateOffice x = Desk.office("base 100;bound 20;cap 100;trust 2;fleet 3 100;seed 5;factor a 3;factor b 2;"
                + "band b 5000 20000;join a 1;risk 1 200 100 0 0;risk 2 100 150 1 1;risk 3 300 400 2 0;");
        Desk.tell(x, "cap 1;cap 1;");
        return x;
    }

    // Each one that can be undone, by its name.
    private static final String[] NAMES = {"turn", "round", "rebase", "level", "relativity", "claims", "risk", "drop",
        "join", "join (no more)", "cap", "trust", "fleet"};
    private static final Call[] CHANGES = {x -> x.turn(0), x -> x.round(3), x -> x.rebase(), x -> x.level(),
        x -> x.relativity(1, 1, 12345), x -> x.claims(2, 77), x -> x.risk(9, 8, 7, 9), x -> x.drop(0), x -> x.join(0, 0),
        x -> x.join(0, 1), x -> x.cap(99), x -> x.trust(98), x -> x.fleet(2, 97)};

    /** With one call to undo already, so that there is something to level. */
    private static RateOffice ready() {
        RateOffice x = rich();
        x.relativity(0, 1, 15000);
        return x;
    }

    private static void manyCalls() {
        SHEET.beginning();
        SHEET.sentence("An object is used for at most 512 calls after it has been made");
        RateOffice x = new RateOffice();
        for (int call = 1; call <= 512; call++) {
            due(x.cap(call), call == 1 ? 250 : call - 1);
        }
        RateOffice y = new RateOffice();
        for (int call = 1; call <= 510; call += 2) {
            due(y.fleet(1 + call % 99, call % 501), 0);
            due(y.undo(), 0);
        }
        due(y.count(10), 99);
        due(y.count(11), 0);
    }

    /** The first ones of all changes, behind each other. */
    private static RateOffice changed(int many) {
        RateOffice x = ready();
        for (int i = 0; i < many; i++) {
            CHANGES[i].on(x);
        }
        return x;
    }

    private static void canBeUndone() {
        SHEET.terms(4);
        SHEET.sentence("Each call of turn, round, rebase, level, relativity, claims, risk, drop, join, cap, trust, fleet"
                + " that isn't refused can be undone, the latest first");
        for (int i = 0; i < CHANGES.length; i++) {
            RateOffice x = ready();
            String before = Desk.picture(x);
            SHEET.holds(CHANGES[i].on(x) >= 0, NAMES[i] + " is refused");
            SHEET.differ(NAMES[i] + before, NAMES[i] + Desk.picture(x));
            due(x.count(7), 2);
            due(x.undo(), 1);
            SHEET.same(NAMES[i] + Desk.picture(x), NAMES[i] + before);
        }
        // all of them behind each other, then the latest back to each one
        for (int done = 0; done <= CHANGES.length; done++) {
            RateOffice x = changed(CHANGES.length);
            due(x.count(7), CHANGES.length + 1);
            for (int i = CHANGES.length; i > done; i--) {
                due(x.undo(), i);
            }
            SHEET.same(Desk.picture(x), Desk.picture(changed(done)));
        }
        // what changes nothing, but isn't refused, can be undone, too
        Call[] idle = {y -> y.turn(0), y -> y.round(50), y -> y.rebase(), y -> y.level(),
            y -> y.relativity(0, 0, 10000), y -> y.claims(0, 5), y -> y.cap(250), y -> y.trust(0), y -> y.fleet(99, 0)};
        RateOffice same = Desk.office("base 5;factor a 1;risk 1 5 1 0;");
        String before = Desk.picture(same);
        for (int i = 0; i < idle.length; i++) {
            SHEET.holds(idle[i].on(same) >= 0, "idle call " + i + " is refused");
            due(same.count(7), i + 1);
        }
        SHEET.same(Desk.picture(same), before);
        for (int left = idle.length - 1; left >= 0; left--) {
            due(same.undo(), left);
        }
    }

    private static void atMostTwenty() {
        SHEET.sentence("(20 at most)");
        RateOffice x = rich();
        for (int i = 1; i <= 19; i++) {
            x.claims(0, 1000 + i);
        }
        due(x.count(7), 19);
        x.claims(0, 1020);
        due(x.count(7), 20);
        x.claims(0, 1021);
        due(x.count(7), 20);
        for (int i = 20; i >= 1; i--) {
            due(x.undo(), i - 1);
            due(x.of(0, 1), 1000 + i);
        }
        due(x.undo(), -1);
        due(x.of(0, 1), 1001);
        // once more round: some undone, others come, more than twenty in all, again and again
        List<Long> past = new ArrayList<>();
        int next = 2000;
        for (int i = 0; i < 110; i++) {
            if (i % 45 < 30) {
                past.add(x.of(0, 1));
                if (past.size() > 20) {
                    past.remove(0);
                }
                x.claims(0, next);
                next++;
            } else if (past.isEmpty()) {
                due(x.undo(), -1);
            } else {
                due(x.undo(), past.size() - 1);
                due(x.of(0, 1), past.remove(past.size() - 1));
            }
            due(x.count(7), past.size());
        }
        for (int i = past.size() - 1; i >= 0; i--) {
            due(x.undo(), i);
            due(x.of(0, 1), past.get(i));
        }
        due(x.undo(), -1);
    }

    private static void imageKeeps() {
        SHEET.sentence("An IMAGE keeps RISKS, RELATIVITIES, JOINS, BASE, cap, trust, SIZE, OFF.");
        for (int i = 0; i < CHANGES.length; i++) {
            RateOffice x = ready();
            String before = Desk.picture(x);
            due(x.keep(), 3);
            CHANGES[i].on(x);
            SHEET.differ(NAMES[i] + before, NAMES[i] + Desk.picture(x));
            due(x.back(), 3);
            SHEET.same(NAMES[i] + Desk.picture(x), NAMES[i] + before);
        }
        // none of the tape and of the fault
        RateOffice y = rich();
        Desk.feedAll(y, "cap 7;");
        y.keep();
        Desk.feedAll(y, "cap 8;");
        due(y.back(), 3);
        due(y.count(8), 40);
        due(y.text(1), -1);
        y.keep();
        due(Desk.tell(y, "band q"), -1);
        due(y.back(), 3);
        due(y.fault(0), 4);
        due(y.fault(1), 5);
        due(y.count(8), 0);
    }

    private static void order() {
        SHEET.sentence("Of several answers that hold NONE goes first, then -2");
        // no such level, and PAID (PREMIUMS) are 0
        RateOffice e = Desk.office("factor a 1;");
        due(e.share(0, 1), -1);
        due(e.share(0, 0), -2);
        due(e.ratio(0, 1), -1);
        due(e.ratio(0, 0), -2);
        due(e.bestJoin(0, 51), -1);
        due(e.bestJoin(0, 50), -2);
        due(e.hardest(2), -1);
        due(e.hardest(1), -2);
        due(e.ranked(-1), -1);
        due(e.ranked(0), -2);
        due(Desk.office("bound 0;factor a 1;risk 1 1 1 0;").fitted(101), -1);
        due(Desk.office("bound 0;factor a 1;risk 1 1 1 0;").fitted(0), -2);
        RateOffice full = Desk.office(Desk.times(40, "risk 1 1 1;"));
        due(full.risk(0, 1, 1, 0), -1);
        due(full.risk(1, 1, 1, 1), -1);
        due(full.risk(1, 1, 1, 0), -2);

        SHEET.sentence("IndexOutOfBoundsException ahead of NoSuchElementException, both ahead of numbers.");
        due(Desk.thrown(e, 1, 5), 1);
        due(Desk.thrown(e, -1, -1), 1);
        due(Desk.thrown(e, 0, 5), 2);
        // -2 is a number
        due(Desk.thrown(e, 1, 4), 1);
        due(Desk.thrown(e, 0, 4), 0);
        due(e.factor(0, 4), -2);
    }

    /** An office with something of everything: a fault, bytes on its tape, an image, three calls to undo. */
    private static RateOffice laden() {
        RateOffice x = rich();
        x.claims(0, 201);
        x.keep();
        x.round(1);
        x.join(0, 0);
        Desk.feedAll(x, "cap 7;");
        return x;
    }

    private static void refused(long want, Call call) {
        RateOffice faulty = laden();
        due(call.on(faulty), want);
        due(faulty.fault(0), 3);
        due(faulty.fault(1), 6);
        SHEET.sameTrail(() -> {
            RateOffice x = laden();
            call.on(x);
            return x;
        }, KeepBoundsTest::laden);
    }

    private static void refused() {
        SHEET.sentence("A call that is refused changes nothing.");
        refused(-2, x -> x.text(-1));
        refused(-2, x -> x.text(21));
        refused(-1, x -> x.turn(2));
        refused(-1, x -> x.turn(-1));
        refused(-1, x -> x.round(0));
        refused(-1, x -> x.round(51));
        refused(-1, x -> x.relativity(1, 1, 4999));
        refused(-1, x -> x.relativity(1, 2, 10000));
        refused(-1, x -> x.relativity(2, 0, 10000));
        refused(-1, x -> x.claims(3, 1));
        refused(-1, x -> x.claims(0, 100000));
        refused(-1, x -> x.risk(0, 1, 1, 0));
        refused(-1, x -> x.risk(1, 1, 1, 64));
        refused(-1, x -> x.drop(3));
        refused(-1, x -> x.join(0, 2));
        refused(-1, x -> x.join(2, 0));
        refused(-1, x -> x.cap(1000));
        refused(-1, x -> x.trust(-1));
        refused(-1, x -> x.fleet(0, 0));
        refused(-1, x -> x.fleet(1, 501));
        refused(1, x -> Desk.thrown(x, 2, 0));
        refused(2, x -> Desk.thrown(x, 0, 5));
        refused(-1, x -> x.fitted(101));
        refused(-1, x -> x.withoutFactor(0, 51));
        refused(-1, x -> x.bestJoin(0, 51));
        refused(-1, x -> x.withoutRisk(3, 0));
        refused(-1, x -> x.quote(100, 0));
        refused(-1, x -> x.chance(0, 61, 1, 1, 0));
        // of 40 risks one more
        SHEET.sameTrail(() -> {
            RateOffice x = full();
            due(x.risk(1, 1, 1, 0), -2);
            return x;
        }, KeepBoundsTest::full);
        // of 900 bytes twenty more
        SHEET.sameTrail(() -> {
            RateOffice x = fed();
            due(x.feed(1, 1, 1, 1, 1), -1);
            return x;
        }, KeepBoundsTest::fed);
        // nothing to undo, no image
        SHEET.sameTrail(() -> {
            RateOffice x = rich();
            due(x.undo(), -1);
            due(x.back(), -1);
            return x;
        }, KeepBoundsTest::rich);
    }

    private static RateOffice full() {
        RateOffice x = laden();
        for (int r = 3; r < 40; r++) {
            x.risk(1, r, 1, 0);
        }
        return x;
    }

    private static RateOffice fed() {
        RateOffice x = laden();
        for (int i = 0; i < 44; i++) {
            x.feed(0, 0, 0, 0, 0);
        }
        return x;
    }

    private static void dropped() {
        SHEET.sentence("RISKS dropped: those behind have a number less.");
        RateOffice x = Desk.office("factor a 3;risk 1 11 21 0;risk 2 12 22 1;risk 3 13 23 2;risk 4 14 24 0;");
        due(x.drop(1), 3);
        int[] left = {1, 3, 4};
        for (int r = 0; r < 3; r++) {
            due(x.of(r, 0), left[r]);
            due(x.of(r, 1), 10 + left[r]);
            due(x.of(r, 2), 20 + left[r]);
            due(x.of(r, 6), (left[r] - 1) % 3);
        }
        due(x.of(3, 0), -999999999);
        due(x.risk(9, 19, 29, 1), 3);
        due(x.drop(3), 3);
        due(x.drop(0), 2);
        due(x.of(0, 0), 3);
        x.undo();
        due(x.of(0, 0), 1);
        due(x.of(2, 0), 4);
    }

    private static void undo() {
        SHEET.promise(42);
        SHEET.sentence("The latest is undone: how many are left");
        RateOffice x = rich();
        x.cap(1);
        x.cap(2);
        x.cap(3);
        due(x.undo(), 2);
        due(x.count(4), 2);
        x.cap(4);
        due(x.undo(), 2);
        due(x.undo(), 1);
        due(x.count(4), 1);
        due(x.undo(), 0);
        due(x.count(4), 100);

        SHEET.sentence("NONE: none.");
        due(x.undo(), -1);
        due(x.count(4), 100);
        due(new RateOffice().undo(), -1);
        x.cap(5);
        x.keep();
        due(x.undo(), 0);
        due(x.undo(), -1);
        x.cap(6);
        x.back();
        due(x.undo(), -1);
        x.cap(7);
        Desk.tell(x, "cap 1;");
        due(x.undo(), -1);
        due(x.count(4), 1);
    }

    private static void keep() {
        SHEET.promise(43);
        SHEET.sentence("An IMAGE is kept (in place of one ahead): how many RISKS.");
        RateOffice x = rich();
        due(x.keep(), 3);
        x.drop(0);
        due(x.keep(), 2);
        due(x.count(7), 1);
        x.drop(0);
        due(x.back(), 2);
        due(x.of(0, 0), 2);
        due(new RateOffice().keep(), 0);
        RateOffice full = Desk.office(Desk.times(40, "risk 1 1 1;"));
        due(full.keep(), 40);
        full.drop(39);
        due(full.back(), 40);
        // of an empty office, too
        RateOffice e = new RateOffice();
        e.keep();
        e.risk(1, 1, 1, 0);
        due(e.back(), 0);
        due(e.count(1), 0);
    }

    private static void back() {
        SHEET.promise(44);
        SHEET.sentence("All is as in the IMAGE (nothing to undo then; it stays): how many RISKS");
        String kept = Desk.picture(kept());
        for (int times = 1; times <= 3; times++) {
            RateOffice x = kept();
            for (int i = 0; i < times; i++) {
                for (Call change : CHANGES) {
                    change.on(x);
                }
                due(x.back(), 3);
                due(x.count(7), 0);
                due(x.undo(), -1);
            }
            SHEET.same(Desk.picture(x), kept);
        }
        // undoing does nothing to it, nor a text with a fault
        RateOffice y = kept();
        y.cap(6);
        y.undo();
        due(Desk.tell(y, "?"), -1);
        y.drop(1);
        due(y.back(), 3);
        SHEET.same(Desk.picture(y), kept);

        SHEET.sentence("NONE: there is none.");
        due(new RateOffice().back(), -1);
        RateOffice z = rich();
        z.cap(7);
        due(z.back(), -1);
        due(z.count(4), 7);
        due(z.count(7), 1);
        z.keep();
        due(Desk.tell(z, "cap 1;"), 1);
        due(z.back(), -1);
        due(z.count(4), 1);
    }

    /** With an image, and a call to undo ahead of it. */
    private static RateOffice kept() {
        RateOffice x = rich();
        x.cap(5);
        x.keep();
        return x;
    }

    private static void count() {
        SHEET.promise(45);
        SHEET.sentence("5 CLASSES of all FACTORS, 6 EMPTY ones of these, 7 what can be undone, 8 bytes of the TAPE");
        RateOffice x = Desk.office("factor a 6;factor b 6;factor c 6;factor d 6;");
        due(x.count(5), 24);
        due(x.count(6), 24);
        x.risk(1, 1, 1, 5 | 5 << 3 | 5 << 6 | 5 << 9);
        due(x.count(6), 20);
        for (int l = 0; l < 5; l++) {
            x.join(3, l);
        }
        due(x.count(5), 19);
        due(x.count(6), 15);
        due(x.count(7), 6);
        due(x.count(8), 0);
        due(new RateOffice().count(5), 0);
        due(new RateOffice().count(6), 0);

        SHEET.sentence("NONE for another what.");
        for (int what : new int[] {-1, 12, 13, 100, Integer.MIN_VALUE, Integer.MAX_VALUE}) {
            due(x.count(what), -1);
            due(new RateOffice().count(what), -1);
        }
        for (int what = 0; what < 12; what++) {
            SHEET.holds(x.count(what) >= 0, "what " + what + " is refused");
        }
    }
}
