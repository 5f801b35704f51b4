import java.math.BigInteger;
import java.util.ArrayDeque;
import java.util.ArrayList;
import java.util.Deque;
import java.util.HashMap;
import java.util.HashSet;
import java.util.List;
import java.util.Map;
import java.util.NoSuchElementException;
import java.util.Set;

/**
 * The document's words a second time, as plainly as can be and without regard to speed or room:
 * ModelTest compares RateOffice with it. It shares no code with RateOffice on purpose.
 */
final class OfficeModel {
    static final class Factor {
        String name;
        int levels;
        int low = 1000;
        int high = 50000;
    }

    static final class Risk {
        final int exposure;
        final int claims;
        final int old;
        final List<Integer> levels;

        Risk(int exposure, int claims, int old, List<Integer> levels) {
            this.exposure = exposure;
            this.claims = claims;
            this.old = old;
            this.levels = levels;
        }
    }

    /** All that an image keeps. */
    static final class State {
        List<Risk> risks = new ArrayList<>();
        Map<String, Integer> relativities = new HashMap<>();
        Set<String> joins = new HashSet<>();
        int base = 1000;
        int cap = 250;
        int trust = 0;
        int size = 99;
        int off = 0;

        State copy() {
            State s = new State();
            s.risks = new ArrayList<>(risks);
            s.relativities = new HashMap<>(relativities);
            s.joins = new HashSet<>(joins);
            s.base = base;
            s.cap = cap;
            s.trust = trust;
            s.size = size;
            s.off = off;
            return s;
        }

        int rel(int f, int l) {
            return relativities.getOrDefault(f + "/" + l, 10000);
        }

        void rel(int f, int l, int v) {
            relativities.put(f + "/" + l, v);
        }

        boolean joined(int f, int l) {
            return joins.contains(f + "/" + l);
        }
    }

    private final List<Byte> tape = new ArrayList<>();
    private int faultKind = 0;
    private int faultPlace = -1;
    private List<Factor> factors = new ArrayList<>();
    private int bound = 10;
    private int seed = 0;
    private State now = new State();
    private State image = null;
    private final Deque<State> undos = new ArrayDeque<>();

    // ---- the text ----

    static final class Fault extends Exception {
        private static final long serialVersionUID = 1L;
        final int kind;
        final int place;

        Fault(int kind, int place) {
            this.kind = kind;
            this.place = place;
        }
    }

    private static final List<String> LANGUAGE =
            List.of("factor", "band", "join", "base", "bound", "cap", "trust", "fleet", "risk", "seed");

    private final class Parser {
        final String text;
        int pos = 0;
        int lines = 0;
        final List<Factor> told = new ArrayList<>();
        final State state = new State();
        final Set<String> once = new HashSet<>();
        int newBound = 10;
        int newSeed = 0;

        Parser(String text) {
            this.text = text;
        }

        void blanks() {
            while (pos < text.length() && (text.charAt(pos) == 10 || text.charAt(pos) == 32)) {
                pos++;
            }
        }

        /** The token at pos, behind blanks, or "" at the end. */
        String peek() {
            blanks();
            int end = pos;
            if (end < text.length() && Character.toString(text.charAt(end)).matches("[a-z]")) {
                while (end < text.length() && Character.toString(text.charAt(end)).matches("[a-z]")) {
                    end++;
                }
            } else if (end < text.length() && Character.toString(text.charAt(end)).matches("[0-9]")) {
                while (end < text.length() && Character.toString(text.charAt(end)).matches("[0-9]")) {
                    end++;
                }
            } else if (end < text.length()) {
                end++;
            }
            return text.substring(pos, end);
        }

        void skip() {
            pos += peek().length();
        }

        String word() throws Fault {
            String w = peek();
            if (!w.matches("[a-z]{1,6}") || LANGUAGE.contains(w)) {
                throw new Fault(1, pos);
            }
            return w;
        }

        int number(int low, int high) throws Fault {
            String n = peek();
            if (!n.matches("[0-9]+")) {
                throw new Fault(1, pos);
            }
            BigInteger v = new BigInteger(n);
            if (v.compareTo(BigInteger.valueOf(low)) < 0 || v.compareTo(BigInteger.valueOf(high)) > 0) {
                throw new Fault(2, pos);
            }
            return v.intValueExact();
        }

        int takeNumber(int low, int high) throws Fault {
            int v = number(low, high);
            skip();
            return v;
        }

        int toldFactor() throws Fault {
            String w = word();
            for (int f = 0; f < told.size(); f++) {
                if (told.get(f).name.equals(w)) {
                    return f;
                }
            }
            throw new Fault(4, pos);
        }

        void parse() throws Fault {
            while (!peek().isEmpty()) {
                line();
                if (!peek().equals(";")) {
                    throw new Fault(1, pos);
                }
                skip();
                lines++;
            }
        }

        void line() throws Fault {
            String w = peek();
            if (!LANGUAGE.contains(w)) {
                throw new Fault(1, pos);
            }
            if (w.equals("factor") && !state.risks.isEmpty()) {
                throw new Fault(1, pos);
            }
            if (w.equals("factor") && told.size() == 4 || w.equals("risk") && state.risks.size() == 40) {
                throw new Fault(2, pos);
            }
            if (!List.of("factor", "band", "join", "risk").contains(w) && !once.add(w)) {
                throw new Fault(3, pos);
            }
            skip();
            if (w.equals("factor")) {
                Factor f = new Factor();
                f.name = word();
                for (Factor g : told) {
                    if (g.name.equals(f.name)) {
                        throw new Fault(3, pos);
                    }
                }
                skip();
                f.levels = takeNumber(1, 6);
                told.add(f);
            } else if (w.equals("band")) {
                int f = toldFactor();
                if (!once.add("band " + f)) {
                    throw new Fault(3, pos);
                }
                skip();
                told.get(f).low = takeNumber(1, 10000);
                told.get(f).high = takeNumber(10000, 99999);
            } else if (w.equals("join")) {
                int f = toldFactor();
                skip();
                int l = number(0, told.get(f).levels - 2);
                if (!state.joins.add(f + "/" + l)) {
                    throw new Fault(3, pos);
                }
                skip();
            } else if (w.equals("risk")) {
                int e = takeNumber(1, 99);
                int c = takeNumber(0, 99999);
                int o = takeNumber(1, 99999);
                List<Integer> levels = new ArrayList<>();
                for (Factor f : told) {
                    levels.add(takeNumber(0, f.levels - 1));
                }
                state.risks.add(new Risk(e, c, o, levels));
            } else if (w.equals("base")) {
                state.base = takeNumber(1, 99999);
            } else if (w.equals("bound")) {
                newBound = takeNumber(0, 999);
            } else if (w.equals("cap")) {
                state.cap = takeNumber(0, 999);
            } else if (w.equals("trust")) {
                state.trust = takeNumber(0, 999);
            } else if (w.equals("fleet")) {
                state.size = takeNumber(1, 99);
                state.off = takeNumber(0, 500);
            } else {
                newSeed = takeNumber(0, 99999);
            }
        }
    }

    public int feed(int a, int b, int c, int d, int e) {
        if (tape.size() + 20 > 900) {
            return -1;
        }
        for (int v : new int[] {a, b, c, d, e}) {
            for (int i = 3; i >= 0; i--) {
                tape.add((byte) (v >>> (8 * i)));
            }
        }
        return tape.size();
    }

    public int text(int n) {
        if (n < 0 || n > tape.size()) {
            return -2;
        }
        StringBuilder s = new StringBuilder();
        for (int i = 0; i < n; i++) {
            s.append((char) (tape.get(i) & 255));
        }
        tape.clear();
        Parser p = new Parser(s.toString());
        try {
            p.parse();
        } catch (Fault f) {
            faultKind = f.kind;
            faultPlace = f.place;
            return -1;
        }
        faultKind = 0;
        faultPlace = -1;
        factors = p.told;
        bound = p.newBound;
        seed = p.newSeed;
        now = p.state;
        image = null;
        undos.clear();
        return p.lines;
    }

    public int fault(int what) {
        return what == 0 ? faultKind : what == 1 ? faultPlace : -1;
    }

    public int named(int letters) {
        for (int f = 0; f < factors.size(); f++) {
            String name = (factors.get(f).name + "``````").substring(0, 6);
            int v = 0;
            for (char c : name.toCharArray()) {
                v = v * 32 + (c - '`');
            }
            if (v == letters) {
                return f;
            }
        }
        return -1;
    }

    // ---- terms ----

    private boolean isFactor(int f) {
        return f >= 0 && f < factors.size();
    }

    private boolean isLevel(int f, int l) {
        return isFactor(f) && l >= 0 && l < factors.get(f).levels;
    }

    private boolean isRisk(int r) {
        return r >= 0 && r < now.risks.size();
    }

    private static boolean in(int v, int low, int high) {
        return low <= v && v <= high;
    }

    private static long bounded(long v, long low, long high) {
        return v < low ? low : v > high ? high : v;
    }

    /** The classes of a factor, each with its levels. */
    private List<List<Integer>> classes(State s, int f) {
        List<List<Integer>> all = new ArrayList<>();
        for (int l = 0; l < factors.get(f).levels; l++) {
            if (l == 0 || !s.joined(f, l - 1)) {
                all.add(new ArrayList<>());
            }
            all.get(all.size() - 1).add(l);
        }
        return all;
    }

    private List<Integer> classOf(State s, int f, int l) {
        for (List<Integer> c : classes(s, f)) {
            if (c.contains(l)) {
                return c;
            }
        }
        throw new IllegalStateException();
    }

    private long behind(State s, Risk r, int n) {
        long p = (long) r.exposure * s.base;
        for (int f = 0; f < n; f++) {
            p = p * s.rel(f, r.levels.get(f)) / 10000;
        }
        return p;
    }

    private long premium(State s, Risk r) {
        long p = behind(s, r, factors.size());
        return r.exposure >= s.size ? p - p * s.off / 1000 : p;
    }

    private long whole(State s) {
        return s.risks.stream().mapToLong(r -> r.claims).sum();
    }

    private long paid(State s) {
        return s.risks.stream().mapToLong(r -> premium(s, r)).sum();
    }

    private List<Risk> risksOf(State s, int f, List<Integer> c) {
        List<Risk> found = new ArrayList<>();
        for (Risk r : s.risks) {
            if (c.contains(r.levels.get(f))) {
                found.add(r);
            }
        }
        return found;
    }

    private long claimsOf(State s, int f, List<Integer> c) {
        return risksOf(s, f, c).stream().mapToLong(r -> r.claims).sum();
    }

    private long premiumsOf(State s, int f, List<Integer> c) {
        return risksOf(s, f, c).stream().mapToLong(r -> premium(s, r)).sum();
    }

    private long exposureOf(State s, int f, List<Integer> c) {
        return risksOf(s, f, c).stream().mapToLong(r -> r.exposure).sum();
    }

    private boolean balances(State s, int f, List<Integer> c) {
        if (risksOf(s, f, c).isEmpty()) {
            return true;
        }
        long claims = claimsOf(s, f, c);
        long premiums = premiumsOf(s, f, c);
        if (Math.abs(claims - premiums) * 1000 <= bound * claims) {
            return true;
        }
        int rel = s.rel(f, c.get(0));
        return rel == factors.get(f).low && premiums > claims || rel == factors.get(f).high && premiums < claims;
    }

    private int turn(State s, int f) {
        State ahead = s.copy();
        int others = 0;
        for (List<Integer> c : classes(s, f)) {
            long premiums = premiumsOf(ahead, f, c);
            if (risksOf(ahead, f, c).isEmpty() || premiums <= 0) {
                continue;
            }
            long r = ahead.rel(f, c.get(0));
            long v = bounded(r * claimsOf(ahead, f, c) / premiums, factors.get(f).low, factors.get(f).high);
            if (s.trust > 0) {
                long e = exposureOf(ahead, f, c);
                v = r + Math.floorDiv((v - r) * e, e + s.trust);
            }
            if (v != r) {
                others++;
            }
            for (int l : c) {
                s.rel(f, l, (int) v);
            }
        }
        return others;
    }

    private void rounds(State s, int n, int except) {
        for (int i = 0; i < n; i++) {
            for (int f = 0; f < factors.size(); f++) {
                if (f != except) {
                    turn(s, f);
                }
            }
        }
    }

    private int unbalanced(State s) {
        int n = 0;
        for (int f = 0; f < factors.size(); f++) {
            for (List<Integer> c : classes(s, f)) {
                if (!balances(s, f, c)) {
                    n++;
                }
            }
        }
        return n;
    }

    private long misfit(State s) {
        long sum = 0;
        for (int f = 0; f < factors.size(); f++) {
            for (List<Integer> c : classes(s, f)) {
                sum += Math.abs(claimsOf(s, f, c) - premiumsOf(s, f, c));
            }
        }
        return sum;
    }

    private void rebase(State s) {
        if (paid(s) > 0) {
            s.base = (int) bounded(s.base * whole(s) / paid(s), 1, 99999);
        }
    }

    private void joinIn(State s, int f, int l) {
        int v = s.rel(f, l);
        s.joins.add(f + "/" + l);
        for (int k : classOf(s, f, l)) {
            s.rel(f, k, v);
        }
    }

    private long raw(Risk r, long f) {
        return premium(now, r) * f / 10000;
    }

    private static long lowEnd(Risk r, int cap) {
        return r.old - (long) r.old * cap / 1000;
    }

    private static long highEnd(Risk r, int cap) {
        return r.old + (long) r.old * cap / 1000;
    }

    private long capped(Risk r, long f, int cap) {
        return bounded(raw(r, f), lowEnd(r, cap), highEnd(r, cap));
    }

    /** Rows of f are passed over by their last one; in the first that holds every f is tried. */
    private int offBalance(int cap) {
        long[] premiums = now.risks.stream().mapToLong(r -> premium(now, r)).toArray();
        long whole = whole(now);
        int step = 317;
        for (int start = 0; start <= 99999; start += step) {
            int last = Math.min(99999, start + step - 1);
            if (sumBy(premiums, last, cap) >= whole) {
                for (int f = start; f <= last; f++) {
                    if (sumBy(premiums, f, cap) >= whole) {
                        return f;
                    }
                }
            }
        }
        return -2;
    }

    private long sumBy(long[] premiums, long f, int cap) {
        long sum = 0;
        for (int i = 0; i < premiums.length; i++) {
            Risk r = now.risks.get(i);
            sum += bounded(premiums[i] * f / 10000, lowEnd(r, cap), highEnd(r, cap));
        }
        return sum;
    }

    private long scale() {
        int f = offBalance(now.cap);
        return f < 0 ? 10000 : f;
    }

    private List<Long> changesOfAll() {
        long f = scale();
        List<Long> all = new ArrayList<>();
        for (Risk r : now.risks) {
            all.add(capped(r, f, now.cap) - r.old);
        }
        return all;
    }

    private List<Integer> levelsFrom(int levels) {
        if (levels < 0) {
            return null;
        }
        List<Integer> all = new ArrayList<>();
        int rest = levels;
        for (Factor f : factors) {
            if (rest % 8 >= f.levels) {
                return null;
            }
            all.add(rest % 8);
            rest /= 8;
        }
        return rest == 0 ? all : null;
    }

    private void note() {
        undos.addLast(now.copy());
        if (undos.size() > 20) {
            undos.removeFirst();
        }
    }

    // ---- calls that change ----

    public int turn(int factor) {
        if (!isFactor(factor)) {
            return -1;
        }
        note();
        return turn(now, factor);
    }

    public int round(int n) {
        if (!in(n, 1, 50)) {
            return -1;
        }
        note();
        rounds(now, n, -1);
        return unbalanced(now);
    }

    public int rebase() {
        note();
        rebase(now);
        return now.base;
    }

    public int level() {
        note();
        if (now.risks.isEmpty()) {
            return now.base;
        }
        for (int f = 0; f < factors.size(); f++) {
            List<Integer> most = null;
            for (List<Integer> c : classes(now, f)) {
                if (most == null || exposureOf(now, f, c) > exposureOf(now, f, most)) {
                    most = c;
                }
            }
            long r = now.rel(f, most.get(0));
            now.base = (int) bounded(now.base * r / 10000, 1, 99999);
            for (int l = 0; l < factors.get(f).levels; l++) {
                now.rel(f, l, (int) bounded(now.rel(f, l) * 10000L / r, factors.get(f).low, factors.get(f).high));
            }
        }
        return now.base;
    }

    public int relativity(int factor, int level, int v) {
        if (!isLevel(factor, level) || !in(v, factors.get(factor).low, factors.get(factor).high)) {
            return -1;
        }
        note();
        int was = now.rel(factor, level);
        for (int l : classOf(now, factor, level)) {
            now.rel(factor, l, v);
        }
        return was;
    }

    public int claims(int risk, int v) {
        if (!isRisk(risk) || !in(v, 0, 99999)) {
            return -1;
        }
        note();
        Risk r = now.risks.get(risk);
        now.risks.set(risk, new Risk(r.exposure, v, r.old, r.levels));
        return r.claims;
    }

    public int risk(int exposure, int claims, int old, int levels) {
        List<Integer> all = levelsFrom(levels);
        if (!in(exposure, 1, 99) || !in(claims, 0, 99999) || !in(old, 1, 99999) || all == null) {
            return -1;
        }
        if (now.risks.size() == 40) {
            return -2;
        }
        note();
        now.risks.add(new Risk(exposure, claims, old, all));
        return now.risks.size() - 1;
    }

    public int drop(int risk) {
        if (!isRisk(risk)) {
            return -1;
        }
        note();
        now.risks.remove(risk);
        return now.risks.size();
    }

    public int join(int factor, int level) {
        if (!isLevel(factor, level) || !isLevel(factor, level + 1)) {
            return -1;
        }
        note();
        if (now.joins.remove(factor + "/" + level)) {
            return 0;
        }
        joinIn(now, factor, level);
        return 1;
    }

    public int cap(int v) {
        if (!in(v, 0, 999)) {
            return -1;
        }
        note();
        int was = now.cap;
        now.cap = v;
        return was;
    }

    public int trust(int v) {
        if (!in(v, 0, 999)) {
            return -1;
        }
        note();
        int was = now.trust;
        now.trust = v;
        return was;
    }

    public int fleet(int size, int off) {
        if (!in(size, 1, 99) || !in(off, 0, 500)) {
            return -1;
        }
        note();
        now.size = size;
        now.off = off;
        return (int) now.risks.stream().filter(r -> r.exposure >= size).count();
    }

    // ---- what stands ----

    public int factor(int factor, int what) {
        if (!isFactor(factor)) {
            throw new IndexOutOfBoundsException();
        }
        Factor f = factors.get(factor);
        switch (what) {
            case 0: return f.levels;
            case 1: return f.low;
            case 2: return f.high;
            case 3: return classes(now, factor).size();
            case 4: break;
            default: throw new NoSuchElementException();
        }
        int found = -2;
        long most = -1;
        for (List<Integer> c : classes(now, factor)) {
            long off = Math.abs(claimsOf(now, factor, c) - premiumsOf(now, factor, c));
            if (!risksOf(now, factor, c).isEmpty() && off > most) {
                most = off;
                found = c.get(0);
            }
        }
        return found;
    }

    public long margin(int factor, int level, int what) {
        if (!isLevel(factor, level)) {
            return -2000;
        }
        List<Integer> c = classOf(now, factor, level);
        switch (what) {
            case 0: return now.rel(factor, level);
            case 1: return c.get(0);
            case 2: return c.get(c.size() - 1);
            case 3: return claimsOf(now, factor, c);
            case 4: return premiumsOf(now, factor, c);
            case 5: return exposureOf(now, factor, c);
            case 6: return risksOf(now, factor, c).size();
            case 7: return balances(now, factor, c) ? 1 : 0;
            default: return -2000;
        }
    }

    public long of(int risk, int what) {
        if (!isRisk(risk)) {
            return -999999999;
        }
        Risk r = now.risks.get(risk);
        switch (what) {
            case 0: return r.exposure;
            case 1: return r.claims;
            case 2: return r.old;
            case 3: return premium(now, r);
            case 4: return capped(r, scale(), now.cap);
            case 5: return capped(r, scale(), now.cap) - r.old;
            default: return what >= 6 && isFactor(what - 6) ? r.levels.get(what - 6) : -999999999;
        }
    }

    public long all(int what) {
        switch (what) {
            case 0: return whole(now);
            case 1: return paid(now);
            case 2: return now.risks.stream().mapToLong(r -> r.old).sum();
            case 3: return misfit(now);
            case 4: return now.risks.stream().mapToLong(r -> r.exposure).sum();
            case 5: {
                long f = scale();
                return now.risks.stream().mapToLong(r -> capped(r, f, now.cap)).sum();
            }
            default: return -1;
        }
    }

    public int fitted(int n) {
        if (!in(n, 0, 100)) {
            return -1;
        }
        State s = now.copy();
        for (int i = 0; i <= n; i++) {
            if (unbalanced(s) == 0) {
                return i;
            }
            rounds(s, 1, -1);
        }
        return -2;
    }

    public int unbalanced() {
        return unbalanced(now);
    }

    public int offBalance() {
        return offBalance(now.cap);
    }

    public int changes(int what) {
        long f = scale();
        switch (what) {
            case 0: return (int) now.risks.stream().filter(r -> capped(r, f, now.cap) > r.old).count();
            case 1: return (int) now.risks.stream().filter(r -> capped(r, f, now.cap) < r.old).count();
            case 2: return (int) now.risks.stream().filter(r -> raw(r, f) < lowEnd(r, now.cap)).count();
            case 3: return (int) now.risks.stream().filter(r -> raw(r, f) > highEnd(r, now.cap)).count();
            default: return -1;
        }
    }

    public int share(int factor, int level) {
        if (!isLevel(factor, level)) {
            return -1;
        }
        long paid = paid(now);
        return paid == 0 ? -2 : (int) (premiumsOf(now, factor, classOf(now, factor, level)) * 1000 / paid);
    }

    public int atEnd(int factor, int what) {
        if (!isFactor(factor) || !in(what, 0, 1)) {
            return -1;
        }
        int end = what == 0 ? factors.get(factor).low : factors.get(factor).high;
        return (int) classes(now, factor).stream().filter(c -> now.rel(factor, c.get(0)) == end).count();
    }

    public int mostOff() {
        State s = now.copy();
        for (int off = 500; off >= 0; off--) {
            s.off = off;
            if (paid(s) >= whole(s)) {
                return off;
            }
        }
        return -2;
    }

    public long step(int risk, int n) {
        return isRisk(risk) && in(n, 0, factors.size()) ? behind(now, now.risks.get(risk), n) : -1;
    }

    public int swing(int risk, int factor, int what) {
        if (!isRisk(risk) || !isFactor(factor) || !in(what, 0, 1)) {
            return -1;
        }
        Risk r = now.risks.get(risk);
        List<Long> premiums = new ArrayList<>();
        for (int l = 0; l < factors.get(factor).levels; l++) {
            List<Integer> levels = new ArrayList<>(r.levels);
            levels.set(factor, l);
            premiums.add(premium(now, new Risk(r.exposure, 0, 1, levels)));
        }
        long best = what == 0 ? premiums.stream().max(Long::compare).get() : premiums.stream().min(Long::compare).get();
        return premiums.indexOf(best);
    }

    public long ratio(int factor, int level) {
        if (!isLevel(factor, level)) {
            return -1;
        }
        List<Integer> c = classOf(now, factor, level);
        long premiums = premiumsOf(now, factor, c);
        return premiums == 0 ? -2 : claimsOf(now, factor, c) * 1000 / premiums;
    }

    public int worst() {
        int found = -2;
        long most = -1;
        for (int f = 0; f < factors.size(); f++) {
            for (List<Integer> c : classes(now, f)) {
                long off = Math.abs(claimsOf(now, f, c) - premiumsOf(now, f, c));
                if (!balances(now, f, c) && off > most) {
                    most = off;
                    found = 8 * f + c.get(0);
                }
            }
        }
        return found;
    }

    public int hardest(int what) {
        if (!in(what, 0, 1)) {
            return -1;
        }
        List<Long> all = changesOfAll();
        if (all.isEmpty()) {
            return -2;
        }
        long most = what == 0 ? all.stream().max(Long::compare).get() : all.stream().min(Long::compare).get();
        return all.indexOf(most);
    }

    public int ranked(int k) {
        if (k < 0) {
            return -1;
        }
        List<Long> all = changesOfAll();
        List<Integer> order = new ArrayList<>();
        for (int i = 0; i < all.size(); i++) {
            order.add(i);
        }
        order.sort((a, b) -> Long.compare(all.get(a), all.get(b)));
        return k < order.size() ? order.get(k) : -2;
    }

    public int leastCap() {
        long[] premiums = now.risks.stream().mapToLong(r -> premium(now, r)).toArray();
        for (int cap = 0; cap <= 999; cap++) {
            if (sumBy(premiums, 99999, cap) >= whole(now)) {
                return cap;
            }
        }
        return -2;
    }

    // ---- what would be ----

    public long withoutFactor(int factor, int n) {
        if (!isFactor(factor) || !in(n, 0, 50)) {
            return -1;
        }
        State s = now.copy();
        for (int l = 0; l < 6; l++) {
            s.rel(factor, l, 10000);
        }
        rounds(s, n, factor);
        return misfit(s);
    }

    public int bestJoin(int factor, int n) {
        if (!isFactor(factor) || !in(n, 0, 50)) {
            return -1;
        }
        int found = -2;
        long least = Long.MAX_VALUE;
        for (int l = 0; l + 1 < factors.get(factor).levels; l++) {
            if (now.joined(factor, l)) {
                continue;
            }
            State s = now.copy();
            joinIn(s, factor, l);
            rounds(s, n, -1);
            if (misfit(s) < least) {
                least = misfit(s);
                found = l;
            }
        }
        return found;
    }

    public int withoutRisk(int risk, int n) {
        if (!isRisk(risk) || !in(n, 0, 50)) {
            return -1;
        }
        State s = now.copy();
        s.risks.remove(risk);
        rounds(s, n, -1);
        rebase(s);
        return s.base;
    }

    public long quote(int exposure, int levels) {
        List<Integer> all = levelsFrom(levels);
        return in(exposure, 1, 99) && all != null ? premium(now, new Risk(exposure, 0, 1, all)) : -1;
    }

    public int kinds(int what) {
        int n = 1;
        for (Factor f : factors) {
            n *= f.levels;
        }
        Set<List<Integer>> seen = new HashSet<>();
        now.risks.forEach(r -> seen.add(r.levels));
        return what == 0 ? n : what == 1 ? n - seen.size() : -1;
    }

    public long chance(int from, int n, int m, int k, int what) {
        if (from < -1 || !in(n, 1, 60) || !in(m, 0, 99999) || !in(k, 0, 20) || !in(what, 0, 2)
                || now.risks.isEmpty()) {
            return -1;
        }
        State s = now.copy();
        BigInteger last = BigInteger.valueOf(from == -1 ? seed : from);
        for (int i = 0; i < n; i++) {
            last = next(last);
            int at = draw(last, s.risks.size());
            last = next(last);
            Risk r = s.risks.get(at);
            s.risks.set(at, new Risk(r.exposure, draw(last, m + 1), r.old, r.levels));
        }
        rounds(s, k, -1);
        return what == 0 ? misfit(s) : what == 1 ? paid(s) : unbalanced(s);
    }

    private static BigInteger next(BigInteger last) {
        return last.multiply(BigInteger.valueOf(1103515245)).add(BigInteger.valueOf(12345))
                .mod(BigInteger.ONE.shiftLeft(31));
    }

    private static int draw(BigInteger number, int modulus) {
        return number.divide(BigInteger.valueOf(65536)).mod(BigInteger.valueOf(modulus)).intValue();
    }

    // ---- undoing and images ----

    public int undo() {
        if (undos.isEmpty()) {
            return -1;
        }
        now = undos.removeLast();
        return undos.size();
    }

    public int keep() {
        image = now.copy();
        return now.risks.size();
    }

    public int back() {
        if (image == null) {
            return -1;
        }
        now = image.copy();
        undos.clear();
        return now.risks.size();
    }

    public int count(int what) {
        int classes = 0;
        int empty = 0;
        for (int f = 0; f < factors.size(); f++) {
            for (List<Integer> c : classes(now, f)) {
                classes++;
                empty += risksOf(now, f, c).isEmpty() ? 1 : 0;
            }
        }
        int[] all = {factors.size(), now.risks.size(), now.base, bound, now.cap, classes, empty, undos.size(),
            tape.size(), now.trust, now.size, now.off};
        return in(what, 0, 11) ? all[what] : -1;
    }
}
