import java.lang.management.ManagementFactory;
import java.lang.reflect.Array;
import java.lang.reflect.Field;
import java.lang.reflect.Modifier;
import java.util.IdentityHashMap;
import java.util.Random;

/** Calls make no objects, the dearest ones end soon, and nothing but what is promised is ever thrown. */
public final class RoomTest {
    // An object is good for 512 calls; full() takes some of them.
    private static final int CALLS = 400;
    private static final int[] EXTREMES = {Integer.MIN_VALUE, Integer.MIN_VALUE + 1, -4096, -64, -9, -8, -2, -1, 0, 1, 2,
        3, 4, 5, 6, 7, 8, 31, 32, 33, 39, 40, 41, 63, 64, 511, 512, 4095, 4096, 99999, 100000, 1 << 20, 1 << 29,
        Integer.MAX_VALUE - 1, Integer.MAX_VALUE};
    private static int wrong = 0;

    private static void need(boolean holds, String what) {
        if (!holds) {
            wrong++;
            System.out.println("RoomTest: " + what);
        }
    }

    public static void main(String[] args) throws IllegalAccessException {
        checkSize();
        checkObjects();
        checkTime();
        checkThrown();
        System.out.println(wrong == 0 ? "RoomTest: the room is as due" : "RoomTest: " + wrong + " faults");
        if (wrong != 0) {
            System.exit(1);
        }
    }

    private static long allocated() {
        com.sun.management.ThreadMXBean bean = (com.sun.management.ThreadMXBean) ManagementFactory.getThreadMXBean();
        return bean.getThreadAllocatedBytes(Thread.currentThread().getId());
    }

    private static RateOffice full() {
        RateOffice x = new RateOffice();
        Desk.tell(x, "factor a 6;factor b 6;factor c 6;factor d 6;trust 7;bound 0;base 777;");
        for (int r = 0; r < 40; r++) {
            int levels = r % 6 | r * 5 % 6 << 3 | r / 3 % 6 << 6 | r / 7 % 6 << 9;
            x.risk(1 + r % 9, r * 2477 % 9000, 500 + r * 97, levels);
        }
        return x;
    }

    /** Each kind of call once, none of them throwing. */
    private static long one(RateOffice x, int call, int i) {
        switch (call) {
            case 0: return x.feed(i, i, i, i, i);
            case 1: return x.text(i % 40);
            case 2: return x.fault(i % 3);
            case 3: return x.named(i << 20);
            case 4: return x.turn(i % 5);
            case 5: return x.round(i % 52);
            case 6: return x.rebase();
            case 7: return x.level();
            case 8: return x.relativity(i % 5, i % 7, 1000 + i * 89 % 50000);
            case 9: return x.claims(i % 41, i * 331 % 100000);
            case 10: return x.risk(1 + i % 99, i, 1 + i, i & 01111);
            case 11: return x.drop(i % 41);
            case 12: return x.join(i % 5, i % 7);
            case 13: return x.cap(i % 1001);
            case 14: return x.trust(i % 1001);
            case 15: return x.fleet(i % 101, i % 502);
            case 16: return x.count(0) > 0 ? x.factor(i % x.count(0), i % 5) : 0;
            case 17: return x.margin(i % 5, i % 7, i % 9);
            case 18: return x.of(i % 41, i % 11);
            case 19: return x.all(i % 7);
            case 20: return x.fitted(i % 102);
            case 21: return x.unbalanced();
            case 22: return x.offBalance();
            case 23: return x.changes(i % 5);
            case 24: return x.share(i % 5, i % 7);
            case 25: return x.atEnd(i % 5, i % 3);
            case 26: return x.mostOff();
            case 27: return x.step(i % 41, i % 6);
            case 28: return x.swing(i % 41, i % 5, i % 3);
            case 29: return x.ratio(i % 5, i % 7);
            case 30: return x.worst();
            case 31: return x.hardest(i % 3);
            case 32: return x.ranked(i % 42 - 1);
            case 33: return x.leastCap();
            case 34: return x.withoutFactor(i % 5, i % 52);
            case 35: return x.bestJoin(i % 5, i % 52);
            case 36: return x.withoutRisk(i % 41, i % 52);
            case 37: return x.quote(i % 101, i & 01111);
            case 38: return x.kinds(i % 3);
            case 39: return x.chance(i, 1 + i % 60, i * 331 % 100000, i % 21, i % 3);
            case 40: return x.undo();
            case 41: return x.keep();
            case 42: return x.back();
            default: return x.count(i % 13);
        }
    }

    private static void checkObjects() {
        for (int call = 0; call < 44; call++) {
            RateOffice y = full();
            for (int i = 0; i < 40; i++) {
                one(y, call, i);
            }
            long start = allocated();
            for (int i = 0; i < 40; i++) {
                one(y, call, i);
            }
            long rest = allocated() - start;
            need(rest < 2_000, "call " + call + " takes " + rest + " bytes in 40 calls");
        }
    }

    /** The room of a run holds 600,000 objects and 7.3 million fields and elements: hundreds of these. */
    private static void checkSize() throws IllegalAccessException {
        IdentityHashMap<Object, Long> sizes = new IdentityHashMap<>();
        measure(full(), sizes);
        long elements = 0;
        for (long size : sizes.values()) {
            elements += size;
        }
        need(sizes.size() <= 300, "an office is made of " + sizes.size() + " objects and arrays");
        need(elements <= 12_000, "an office has " + elements + " fields and elements");
    }

    private static void measure(Object o, IdentityHashMap<Object, Long> sizes) throws IllegalAccessException {
        if (o == null || sizes.containsKey(o)) {
            return;
        }
        Class<?> type = o.getClass();
        if (type.isArray()) {
            sizes.put(o, (long) Array.getLength(o));
            for (int i = 0; !type.getComponentType().isPrimitive() && i < Array.getLength(o); i++) {
                measure(Array.get(o, i), sizes);
            }
            return;
        }
        long fields = 0;
        sizes.put(o, fields);
        for (Field f : type.getDeclaredFields()) {
            if (!Modifier.isStatic(f.getModifiers())) {
                fields++;
                f.setAccessible(true);
                if (!f.getType().isPrimitive()) {
                    measure(f.get(o), sizes);
                }
            }
        }
        sizes.put(o, fields);
    }

    private static void checkTime() {
        long start = System.nanoTime();
        long sum = 0;
        for (int run = 0; run < 3; run++) {
            RateOffice x = full();
            for (int i = 0; i < CALLS; i++) {
                sum += run == 0 ? x.bestJoin(i % 4, 50) : run == 1 ? x.fitted(100) : x.leastCap();
            }
        }
        long seconds = (System.nanoTime() - start) / 1_000_000_000L;
        need(seconds < 60, "the dearest calls take " + seconds + " seconds (" + sum + ")");
    }

    private static void checkThrown() {
        Random random = new Random(5);
        for (int run = 0; run < 400; run++) {
            RateOffice x = run % 4 == 0 ? new RateOffice() : full();
            for (int i = 0; i < CALLS; i++) {
                int call = random.nextInt(46);
                try {
                    if (call < 44) {
                        one(x, call, random.nextInt(100000));
                    } else {
                        extreme(x, random);
                    }
                } catch (RuntimeException e) {
                    need(false, "run " + run + ", call " + call + " throws " + e);
                }
            }
        }
    }

    private static int e(Random random) {
        return random.nextInt(4) == 0 ? random.nextInt() : EXTREMES[random.nextInt(EXTREMES.length)];
    }

    private static void extreme(RateOffice x, Random r) {
        switch (r.nextInt(23)) {
            case 0: x.text(e(r)); break;
            case 1: x.named(e(r)); break;
            case 2: x.turn(e(r)); break;
            case 3: x.round(e(r)); break;
            case 4: x.relativity(e(r), e(r), e(r)); break;
            case 5: x.claims(e(r), e(r)); break;
            case 6: x.risk(e(r), e(r), e(r), e(r)); break;
            case 7: x.drop(e(r)); break;
            case 8: x.join(e(r), e(r)); break;
            case 9: x.fleet(e(r), e(r)); break;
            case 10: x.margin(e(r), e(r), e(r)); break;
            case 11: x.of(e(r), e(r)); break;
            case 12: x.fitted(e(r)); break;
            case 13: x.share(e(r), e(r)); break;
            case 14: x.atEnd(e(r), e(r)); break;
            case 15: x.step(e(r), e(r)); break;
            case 16: x.swing(e(r), e(r), e(r)); break;
            case 17: x.ratio(e(r), e(r)); break;
            case 18: x.withoutFactor(e(r), e(r)); x.bestJoin(e(r), e(r)); break;
            case 19: x.withoutRisk(e(r), e(r)); break;
            case 20: x.quote(e(r), e(r)); break;
            case 21: x.chance(e(r), e(r), e(r), e(r), e(r)); break;
            default: extremeFactor(x, e(r), e(r)); break;
        }
    }

    private static void extremeFactor(RateOffice x, int factor, int what) {
        boolean isFactor = factor >= 0 && factor < x.count(0);
        Class<?> due = !isFactor ? IndexOutOfBoundsException.class
                : what < 0 || what > 4 ? java.util.NoSuchElementException.class : null;
        Class<?> got = null;
        try {
            x.factor(factor, what);
        } catch (RuntimeException e) {
            got = e.getClass();
        }
        need(got == due, "factor(" + factor + ", " + what + ") throws " + got);
    }
}
