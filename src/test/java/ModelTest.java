import java.lang.reflect.InvocationTargetException;
import java.lang.reflect.Method;
import java.lang.reflect.Modifier;
import java.util.ArrayList;
import java.util.Arrays;
import java.util.Comparator;
import java.util.List;
import java.util.Random;

/** Runs of calls by chance, always the same ones: RateOffice answers as OfficeModel does. */
public final class ModelTest {
    private static final int RUNS = 4000;
    private static final int[] EDGES = {Integer.MIN_VALUE, -1000, -3, -2, -1, 0, 1, 2, 3, 4, 5, 6, 7, 8, 9, 12, 20,
        21, 40, 41, 50, 51, 60, 61, 99, 100, 101, 500, 501, 999, 1000, 9999, 10000, 99999, 100000,
        1 << 12, 1 << 30, Integer.MAX_VALUE};

    private static final List<Method> CALLS = new ArrayList<>();
    private static final List<Method> DUE = new ArrayList<>();

    private final Random random;
    private final RateOffice office = new RateOffice();
    private final OfficeModel model = new OfficeModel();
    private final StringBuilder log = new StringBuilder();
    private int calls = 0;
    private boolean wrong = false;

    private ModelTest(long seed) {
        random = new Random(seed);
    }

    public static void main(String[] args) throws Exception {
        for (Method m : RateOffice.class.getDeclaredMethods()) {
            if (Modifier.isPublic(m.getModifiers())) {
                CALLS.add(m);
            }
        }
        CALLS.sort(Comparator.comparing(Method::getName));
        for (Method m : CALLS) {
            Method due = OfficeModel.class.getDeclaredMethod(m.getName(), m.getParameterTypes());
            DUE.add(due);
        }
        int failed = 0;
        for (int run = 0; run < RUNS && failed < 3; run++) {
            ModelTest t = new ModelTest(run);
            t.play();
            if (t.wrong) {
                failed++;
                System.out.println("run " + run + ":\n" + t.log);
            }
        }
        System.out.println(failed == 0 ? "ModelTest: all answers are as due" : "ModelTest: answers are not as due");
        if (failed != 0) {
            System.exit(1);
        }
    }

    private void play() throws Exception {
        int texts = 1 + random.nextInt(3);
        for (int t = 0; t < texts && !wrong; t++) {
            if (random.nextInt(8) != 0) {
                feedText(new TextMaker(random).make());
            }
            int n = 20 + random.nextInt(60);
            for (int i = 0; i < n && !wrong && calls < 500; i++) {
                String name = CALLS.get(random.nextInt(CALLS.size())).getName();
                // A text makes all anew, so most of a run goes on without one.
                call(name.equals("text") && random.nextInt(10) != 0 ? "turn" : name);
            }
        }
    }

    private void feedText(String text) throws Exception {
        int length = Math.min(text.length(), 900);
        byte[] bytes = new byte[900];
        Arrays.fill(bytes, (byte) ' ');
        for (int i = 0; i < length; i++) {
            bytes[i] = (byte) text.charAt(i);
        }
        if (random.nextInt(4) != 0) {
            // What calls by chance left on the tape goes first.
            compare("text", 0);
        }
        for (int i = 0; i < length; i += 20) {
            int[] w = new int[5];
            for (int k = 0; k < 20; k++) {
                w[k / 4] = w[k / 4] << 8 | bytes[i + k] & 255;
            }
            compare("feed", w[0], w[1], w[2], w[3], w[4]);
        }
        compare("text", length);
        compare("fault", 0);
        compare("fault", 1);
    }

    private void call(String name) throws Exception {
        Method m = CALLS.get(indexOf(name));
        int[] a = new int[m.getParameterCount()];
        for (int i = 0; i < a.length; i++) {
            a[i] = random.nextInt(14) == 0 ? EDGES[random.nextInt(EDGES.length)] : argument(name, i);
        }
        compare(name, a);
    }

    private int argument(String name, int i) {
        int n = random.nextInt(Integer.MAX_VALUE);
        switch (name + i) {
            case "text0": return n % 30;
            case "fault0": case "hardest0": case "kinds0": case "atEnd1": case "swing2": return n % 3;
            case "named0": return (n % 4 + 1) << 25;
            case "turn0": case "relativity0": case "join0": case "factor0": case "margin0": case "share0":
            case "atEnd0": case "ratio0": case "withoutFactor0": case "bestJoin0": case "swing1": return n % (n / 100 % 4 + 1);
            case "relativity1": case "join1": case "margin1": case "share1": case "ratio1": return n % (n / 100 % 6 + 1);
            case "relativity2": return n % 3 == 0 ? 10000 : 8000 + n / 3 % (n % 5 == 0 ? 50000 : 4000);
            case "claims0": case "of0": case "step0": case "swing0": case "withoutRisk0": case "ranked0":
            case "drop0": return n % (n / 100 % 8 + 1);
            case "claims1": return n % 100000 % (n % 3 == 0 ? 100000 : 3000);
            case "risk0": case "quote0": return 1 + n % (n / 200 % 2 == 0 ? 99 : 5);
            case "risk1": case "risk2": return 1 + n % 100000 % (n % 4 == 0 ? 99999 : 3000);
            case "risk3": case "quote1": return n % 4 == 0 ? 0 : n & (n >> 4) & (n % 3 == 0 ? 511 : 4095);
            case "cap0": case "trust0": return n % 5 == 0 ? 0 : n % (n % 7 == 0 ? 1000 : 120);
            case "fleet0": return 1 + n % 20;
            case "fleet1": return n % 501;
            case "factor1": return n % 6;
            case "margin2": return n % 9;
            case "of1": return n % 11;
            case "all0": return n % 7;
            case "round0": case "fitted0": case "withoutFactor1": case "bestJoin1": case "withoutRisk1":
                return n % (n % 9 == 0 ? 51 : 6);
            case "changes0": return n % 5;
            case "step1": return n % 5;
            case "chance0": return n % 4 == 0 ? -1 : n;
            case "chance1": return 1 + n % 60;
            case "chance2": return n % 100000 % (n % 3 == 0 ? 100000 : 3000);
            case "chance3": return n % 8;
            case "chance4": return n % 3;
            case "count0": return n % 13;
            default: return random.nextInt();
        }
    }

    private static int indexOf(String name) {
        for (int i = 0; i < CALLS.size(); i++) {
            if (CALLS.get(i).getName().equals(name)) {
                return i;
            }
        }
        throw new IllegalArgumentException(name);
    }

    private void compare(String name, int... arguments) throws Exception {
        if (wrong) {
            return;
        }
        calls++;
        Object[] a = new Object[arguments.length];
        for (int i = 0; i < a.length; i++) {
            a[i] = arguments[i];
        }
        int at = indexOf(name);
        String got = answer(CALLS.get(at), office, a);
        String want = answer(DUE.get(at), model, a);
        log.append("  ").append(name).append(Arrays.toString(a)).append(" = ").append(got).append('\n');
        if (!got.equals(want)) {
            wrong = true;
            log.append("  due is ").append(want).append('\n');
        }
    }

    private static String answer(Method m, Object on, Object[] a) throws Exception {
        try {
            return String.valueOf(m.invoke(on, a));
        } catch (InvocationTargetException e) {
            return e.getCause().getClass().getName();
        }
    }

    /** Texts by chance: most are right, some have a fault of any kind. */
    private static final class TextMaker {
        private final Random random;
        private final StringBuilder text = new StringBuilder();
        private final int faulty;

        TextMaker(Random random) {
            this.random = random;
            faulty = random.nextInt(3) == 0 ? 25 : 0;
        }

        private int pick(int low, int high) {
            if (faulty != 0 && random.nextInt(faulty) == 0) {
                return random.nextBoolean() ? high + 1 : Math.max(0, low - 1);
            }
            return low + random.nextInt(high - low + 1);
        }

        private boolean some(int of) {
            return random.nextInt(of) == 0;
        }

        private TextMaker line(Object... tokens) {
            for (Object t : tokens) {
                text.append(some(20) ? "\n " : "").append(t).append(' ');
            }
            text.setLength(text.length() - 1);
            text.append(some(10) ? " ;\n" : ";");
            return this;
        }

        String make() {
            if (faulty != 0 && some(6)) {
                return tooMany();
            }
            int n = some(8) ? 0 : 1 + random.nextInt(4);
            String[] names = {"a", "b", "c", "d"};
            int[] levels = new int[4];
            for (int f = 0; f < n; f++) {
                levels[f] = 1 + random.nextInt(6);
                line("factor", names[f], levels[f]);
                if (some(2)) {
                    line("band", names[f], some(3) ? pick(1, 10000) : pick(5000, 10000),
                            some(3) ? pick(10000, 99999) : pick(10000, 20000));
                }
                for (int l = 0; l + 1 < levels[f]; l++) {
                    if (some(4)) {
                        line("join", names[f], l);
                    }
                }
            }
            settings();
            boolean near = some(2);
            int risks = some(6) ? 30 : random.nextInt(12);
            for (int r = 0; r < risks; r++) {
                Object[] tokens = new Object[4 + n];
                tokens[0] = "risk";
                tokens[1] = pick(1, some(3) ? 99 : 5);
                tokens[2] = near ? pick(900, 1300) : some(5) ? pick(0, 99999) : pick(0, 4000);
                tokens[3] = near ? pick(900, 1200) : some(5) ? pick(1, 99999) : pick(500, 4000);
                for (int f = 0; f < n; f++) {
                    tokens[4 + f] = pick(0, levels[f] - 1);
                }
                line(tokens);
            }
            return faulty == 0 ? text.toString() : spoil(text.toString());
        }

        private void settings() {
            for (String word : new String[] {"base", "bound", "cap", "trust", "fleet", "seed"}) {
                int times = some(2) ? 1 : 0;
                times += faulty != 0 && some(faulty) ? 1 : 0;
                for (int i = 0; i < times; i++) {
                    if (word.equals("base")) {
                        line(word, some(4) ? pick(1, 20) : some(3) ? pick(1, 99999) : pick(100, 2000));
                    } else if (word.equals("fleet")) {
                        line(word, pick(1, 99), pick(0, 500));
                    } else if (word.equals("seed")) {
                        line(word, pick(0, 99999));
                    } else {
                        line(word, some(2) ? pick(0, 999) : pick(0, 60));
                    }
                }
            }
        }

        private String tooMany() {
            if (some(2)) {
                for (int i = 0; i < 42; i++) {
                    line("risk", 1, 1, 1);
                }
            } else {
                for (int i = 0; i < 6; i++) {
                    line("factor", "n" + "abcdef".charAt(i), 1 + random.nextInt(6));
                }
            }
            return text.toString();
        }

        private String spoil(String right) {
            if (right.isEmpty() || some(4)) {
                return right;
            }
            int at = random.nextInt(right.length());
            if (some(2)) {
                at = right.indexOf(';', at) + 1;
                at = at == right.length() ? 0 : at;
            }
            switch (random.nextInt(5)) {
                case 0:
                    return right.substring(0, at);
                case 1:
                    return right.substring(0, at) + right.substring(at + 1);
                case 2:
                    return right.substring(0, at) + (char) (random.nextInt(256)) + right.substring(at);
                case 3: {
                    String[] bits = {"factor", "risk", " abcdefg ", " a ", " 7 ", " cap 1;", "join a 0;", "band a 1 10000;",
                        " 99999999999999999999 ", "base 1;", "factor a 2;", "band zz 1 10000;", ";", " zebra "};
                    return right.substring(0, at) + bits[random.nextInt(bits.length)] + right.substring(at);
                }
                default: {
                    int cut = right.indexOf(';', at);
                    return cut < 0 ? right : right.substring(0, cut + 1) + right.substring(0, cut + 1);
                }
            }
        }
    }
}
