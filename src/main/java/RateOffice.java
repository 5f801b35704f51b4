import java.util.NoSuchElementException;

/** An office for motor rates. What each call answers is promised in DOC.md, by number. */
public final class RateOffice {
    public static final int NONE = -1;

    private static final int NOT_SO = -2;
    private static final long NO_MARGIN = -2000L;
    private static final long NO_RISK = -999999999L;

    private static final int MAX_FACTORS = 4;
    private static final int MAX_LEVELS = 6;
    private static final int MAX_RISKS = 40;
    private static final int MAX_TAPE = 900;
    private static final int MAX_UNDO = 20;
    private static final int FEED_BYTES = 20;

    // A level takes three bits, so that no slot of four factors can lie outside a row of 32.
    private static final int LEVEL_BITS = 3;
    private static final int LEVEL_MASK = 7;
    private static final int SLOTS = 32;

    private static final int ONE = 10000;
    private static final int MAX_AMOUNT = 99999;
    private static final int MAX_EXPOSURE = 99;
    private static final int MAX_THOUSANDTHS = 999;
    private static final int MAX_OFF = 500;
    private static final int MAX_ROUNDS = 50;
    private static final int MAX_FITTING = 100;

    // Halving 100000 values takes 17 steps.
    private static final int MAX_HALVINGS = 20;

    private final byte[] tape;
    private int tapeLength;
    private int faultKind;
    private int faultPlace;
    private final Plan plan;
    private final Book book;
    private final Fit live;
    private final Capping capping;
    private final Book trialBook;
    private final Fit trial;
    private final Reader reader;
    private final Book image;
    private boolean hasImage;
    private final Book[] history;
    private int oldest;
    private int undoCount;

    public RateOffice() {
        tape = new byte[MAX_TAPE];
        faultPlace = NONE;
        plan = new Plan();
        book = new Book();
        live = new Fit(plan, book);
        capping = new Capping(live);
        trialBook = new Book();
        trial = new Fit(plan, trialBook);
        reader = new Reader();
        image = new Book();
        history = new Book[MAX_UNDO];
        for (int i = 0; i < MAX_UNDO; i++) {
            history[i] = new Book();
        }
    }

    // ---- the tape and the text ----

    public int feed(int a, int b, int c, int d, int e) {
        if (tapeLength + FEED_BYTES > MAX_TAPE) {
            return NONE;
        }
        appendBytes(a);
        appendBytes(b);
        appendBytes(c);
        appendBytes(d);
        appendBytes(e);
        return tapeLength;
    }

    private void appendBytes(int four) {
        for (int shift = 24; shift >= 0 && tapeLength < MAX_TAPE; shift -= 8) {
            tape[tapeLength] = (byte) (four >> shift);
            tapeLength++;
        }
    }

    public int text(int n) {
        if (n < 0 || n > tapeLength) {
            return NOT_SO;
        }
        tapeLength = 0;
        int lines = reader.readText(tape, n);
        faultKind = reader.faultKind;
        faultPlace = reader.faultPlace;
        if (faultKind != 0) {
            return NONE;
        }
        plan.copyFrom(reader.plan);
        book.copyFrom(reader.book);
        hasImage = false;
        undoCount = 0;
        return lines;
    }

    public int fault(int what) {
        if (what == 0) {
            return faultKind;
        }
        return what == 1 ? faultPlace : NONE;
    }

    public int named(int letters) {
        return plan.find(letters);
    }

    // ---- calls that change something and can be undone ----

    public int turn(int factor) {
        if (!plan.hasFactor(factor)) {
            return NONE;
        }
        remember();
        return live.turnOnce(factor);
    }

    public int round(int n) {
        if (!within(n, 1, MAX_ROUNDS)) {
            return NONE;
        }
        remember();
        live.playRounds(n, NONE);
        return live.countUnbalanced();
    }

    public int rebase() {
        remember();
        live.rebaseBook();
        return book.base;
    }

    public int level() {
        remember();
        live.levelBook();
        return book.base;
    }

    public int relativity(int factor, int level, int v) {
        if (!plan.hasLevel(factor, level) || !within(v, plan.lows[factor], plan.highs[factor])) {
            return NONE;
        }
        remember();
        int was = book.relativities[slot(factor, level)];
        book.setClass(factor, level, v);
        return was;
    }

    public int claims(int risk, int v) {
        if (!book.hasRisk(risk) || !within(v, 0, MAX_AMOUNT)) {
            return NONE;
        }
        remember();
        int was = book.claimsOf[risk];
        book.claimsOf[risk] = v;
        return was;
    }

    public int risk(int exposure, int claims, int old, int levels) {
        if (!within(exposure, 1, MAX_EXPOSURE) || !within(claims, 0, MAX_AMOUNT)
                || !within(old, 1, MAX_AMOUNT) || !plan.hasLevels(levels)) {
            return NONE;
        }
        if (book.riskCount >= MAX_RISKS) {
            return NOT_SO;
        }
        remember();
        book.addRisk(exposure, claims, old, levels);
        return book.riskCount - 1;
    }

    public int drop(int risk) {
        if (!book.hasRisk(risk)) {
            return NONE;
        }
        remember();
        book.removeRisk(risk);
        return book.riskCount;
    }

    public int join(int factor, int level) {
        if (!plan.hasLevel(factor, level) || level == plan.levelCounts[factor] - 1) {
            return NONE;
        }
        remember();
        if (book.isJoined(factor, level)) {
            book.part(factor, level);
            return 0;
        }
        book.joinToNext(factor, level);
        return 1;
    }

    public int cap(int v) {
        if (!within(v, 0, MAX_THOUSANDTHS)) {
            return NONE;
        }
        remember();
        int was = book.capRate;
        book.capRate = v;
        return was;
    }

    public int trust(int v) {
        if (!within(v, 0, MAX_THOUSANDTHS)) {
            return NONE;
        }
        remember();
        int was = book.trustWeight;
        book.trustWeight = v;
        return was;
    }

    public int fleet(int size, int off) {
        if (!within(size, 1, MAX_EXPOSURE) || !within(off, 0, MAX_OFF)) {
            return NONE;
        }
        remember();
        book.fleetSize = size;
        book.fleetOff = off;
        return book.countFleets();
    }

    // ---- what stands ----

    public int factor(int factor, int what) throws IndexOutOfBoundsException, NoSuchElementException {
        if (!plan.hasFactor(factor)) {
            throw new IndexOutOfBoundsException();
        }
        switch (what) {
            case 0:
                return plan.levelCounts[factor];
            case 1:
                return plan.lows[factor];
            case 2:
                return plan.highs[factor];
            case 3:
                return live.countClasses(factor);
            case 4:
                return live.farthestOff(factor);
            default:
                throw new NoSuchElementException();
        }
    }

    public long margin(int factor, int level, int what) {
        if (!plan.hasLevel(factor, level)) {
            return NO_MARGIN;
        }
        live.measure(factor);
        int first = book.firstOf(factor, level);
        int s = slot(factor, first);
        switch (what) {
            case 0:
                return book.relativities[s];
            case 1:
                return first;
            case 2:
                return book.lastOf(factor, level);
            case 3:
                return live.claimSums[s];
            case 4:
                return live.premiumSums[s];
            case 5:
                return live.exposureSums[s];
            case 6:
                return live.riskSums[s];
            case 7:
                return live.balances(factor, first) ? 1 : 0;
            default:
                return NO_MARGIN;
        }
    }

    public long of(int risk, int what) {
        if (!book.hasRisk(risk)) {
            return NO_RISK;
        }
        switch (what) {
            case 0:
                return book.exposures[risk];
            case 1:
                return book.claimsOf[risk];
            case 2:
                return book.olds[risk];
            case 3:
                return live.premiumOf(risk);
            case 4:
                capping.settle();
                return capping.cappedOnes[risk];
            case 5:
                capping.settle();
                return capping.changeOf(risk);
            default:
                return within(what, 6, 5 + plan.factorCount) ? levelIn(book.levelsOf[risk], what - 6) : NO_RISK;
        }
    }

    public long all(int what) {
        switch (what) {
            case 0:
                return book.sumOf(book.claimsOf);
            case 1:
                return live.sumPaid();
            case 2:
                return book.sumOf(book.olds);
            case 3:
                return live.sumMisfit();
            case 4:
                return book.sumOf(book.exposures);
            case 5:
                capping.settle();
                return capping.sumCapped();
            default:
                return NONE;
        }
    }

    public int fitted(int n) {
        if (!within(n, 0, MAX_FITTING)) {
            return NONE;
        }
        trialBook.copyFrom(book);
        return trial.roundsTillBalance(n);
    }

    public int unbalanced() {
        return live.countUnbalanced();
    }

    public int offBalance() {
        capping.settle();
        return capping.offBalanceFound;
    }

    public int changes(int what) {
        if (!within(what, 0, 3)) {
            return NONE;
        }
        capping.settle();
        int n = 0;
        for (int r = 0; r < book.riskCount; r++) {
            if (capping.isChanged(r, what)) {
                n++;
            }
        }
        return n;
    }

    public int share(int factor, int level) {
        if (!plan.hasLevel(factor, level)) {
            return NONE;
        }
        live.measure(factor);
        long paid = live.sumPaid();
        if (paid <= 0) {
            return NOT_SO;
        }
        return (int) (live.premiumSums[slot(factor, book.firstOf(factor, level))] * 1000 / paid);
    }

    public int atEnd(int factor, int what) {
        if (!plan.hasFactor(factor) || !within(what, 0, 1)) {
            return NONE;
        }
        return live.countAt(factor, what == 0 ? plan.lows[factor] : plan.highs[factor]);
    }

    public int mostOff() {
        trialBook.copyFrom(book);
        long whole = book.sumOf(book.claimsOf);
        // PAID never grows with OFF, so the offs that hold are a row from 0 on.
        int holds = NOT_SO;
        int low = 0;
        int high = MAX_OFF;
        for (int i = 0; i < MAX_HALVINGS && low <= high; i++) {
            int middle = (low + high) >> 1;
            trialBook.fleetOff = middle;
            if (trial.sumPaid() >= whole) {
                holds = middle;
                low = middle + 1;
            } else {
                high = middle - 1;
            }
        }
        return holds;
    }

    public long step(int risk, int n) {
        if (!book.hasRisk(risk) || !within(n, 0, plan.factorCount)) {
            return NONE;
        }
        return live.behindFactors(book.exposures[risk], book.levelsOf[risk], n);
    }

    public int swing(int risk, int factor, int what) {
        if (!book.hasRisk(risk) || !plan.hasFactor(factor) || !within(what, 0, 1)) {
            return NONE;
        }
        int rest = book.levelsOf[risk] & ~(LEVEL_MASK << slotShift(factor));
        int found = 0;
        long best = 0;
        for (int l = 0; l < plan.levelCounts[factor]; l++) {
            long p = live.premiumFor(book.exposures[risk], rest | l << slotShift(factor));
            if (l == 0 || (what == 0 ? p > best : p < best)) {
                best = p;
                found = l;
            }
        }
        return found;
    }

    public long ratio(int factor, int level) {
        if (!plan.hasLevel(factor, level)) {
            return NONE;
        }
        live.measure(factor);
        int s = slot(factor, book.firstOf(factor, level));
        long premiums = live.premiumSums[s];
        if (premiums <= 0) {
            return NOT_SO;
        }
        return live.claimSums[s] * 1000 / premiums;
    }

    public int worst() {
        return live.worstSlot();
    }

    public int hardest(int what) {
        if (!within(what, 0, 1)) {
            return NONE;
        }
        capping.settle();
        int found = NOT_SO;
        long most = 0;
        for (int r = 0; r < book.riskCount; r++) {
            long change = what == 0 ? capping.changeOf(r) : -capping.changeOf(r);
            if (r == 0 || change > most) {
                most = change;
                found = r;
            }
        }
        return found;
    }

    public int ranked(int k) {
        if (k < 0) {
            return NONE;
        }
        capping.settle();
        for (int r = 0; r < book.riskCount; r++) {
            if (capping.rankOf(r) == k) {
                return r;
            }
        }
        return NOT_SO;
    }

    public int leastCap() {
        return capping.searchCap();
    }

    // ---- what would be ----

    public long withoutFactor(int factor, int n) {
        if (!plan.hasFactor(factor) || !within(n, 0, MAX_ROUNDS)) {
            return NONE;
        }
        trialBook.copyFrom(book);
        trialBook.setAll(factor, ONE);
        trial.playRounds(n, factor);
        return trial.sumMisfit();
    }

    public int bestJoin(int factor, int n) {
        if (!plan.hasFactor(factor) || !within(n, 0, MAX_ROUNDS)) {
            return NONE;
        }
        int found = NOT_SO;
        long least = 0;
        for (int l = 0; l < plan.levelCounts[factor] - 1; l++) {
            if (!book.isJoined(factor, l)) {
                long misfit = misfitIfJoined(factor, l, n);
                if (found == NOT_SO || misfit < least) {
                    least = misfit;
                    found = l;
                }
            }
        }
        return found;
    }

    private long misfitIfJoined(int factor, int level, int n) {
        trialBook.copyFrom(book);
        trialBook.joinToNext(factor, level);
        trial.playRounds(n, NONE);
        return trial.sumMisfit();
    }

    public int withoutRisk(int risk, int n) {
        if (!book.hasRisk(risk) || !within(n, 0, MAX_ROUNDS)) {
            return NONE;
        }
        trialBook.copyFrom(book);
        trialBook.removeRisk(risk);
        trial.playRounds(n, NONE);
        trial.rebaseBook();
        return trialBook.base;
    }

    public long quote(int exposure, int levels) {
        if (!within(exposure, 1, MAX_EXPOSURE) || !plan.hasLevels(levels)) {
            return NONE;
        }
        return live.premiumFor(exposure, levels);
    }

    public int kinds(int what) {
        if (!within(what, 0, 1)) {
            return NONE;
        }
        return what == 0 ? plan.countKinds() : plan.countKinds() - book.countKinds();
    }

    public long chance(int seed, int n, int m, int k, int what) {
        if (seed < -1 || !within(n, 1, 60) || !within(m, 0, MAX_AMOUNT) || !within(k, 0, 20)
                || !within(what, 0, 2) || book.riskCount <= 0) {
            return NONE;
        }
        trialBook.copyFrom(book);
        trialBook.drawClaims(seed < 0 ? plan.seed : seed, n, m + 1);
        trial.playRounds(k, NONE);
        if (what == 0) {
            return trial.sumMisfit();
        }
        return what == 1 ? trial.sumPaid() : trial.countUnbalanced();
    }

    // ---- undoing and images ----

    public int undo() {
        if (undoCount <= 0) {
            return NONE;
        }
        undoCount--;
        book.copyFrom(history[historyIndex(undoCount)]);
        return undoCount;
    }

    public int keep() {
        image.copyFrom(book);
        hasImage = true;
        return book.riskCount;
    }

    public int back() {
        if (!hasImage) {
            return NONE;
        }
        book.copyFrom(image);
        undoCount = 0;
        return book.riskCount;
    }

    public int count(int what) {
        switch (what) {
            case 0:
                return plan.factorCount;
            case 1:
                return book.riskCount;
            case 2:
                return book.base;
            case 3:
                return plan.bound;
            case 4:
                return book.capRate;
            case 5:
                return live.countAllClasses(false);
            case 6:
                return live.countAllClasses(true);
            case 7:
                return undoCount;
            case 8:
                return tapeLength;
            case 9:
                return book.trustWeight;
            case 10:
                return book.fleetSize;
            case 11:
                return book.fleetOff;
            default:
                return NONE;
        }
    }

    /** Keeps the book as it is ahead of a call that changes it; the oldest one gives way. */
    private void remember() {
        if (undoCount >= MAX_UNDO) {
            oldest = (oldest + 1) % MAX_UNDO;
            undoCount = MAX_UNDO - 1;
        }
        history[historyIndex(undoCount)].copyFrom(book);
        undoCount++;
    }

    private int historyIndex(int age) {
        return (oldest + age) % MAX_UNDO;
    }

    // ---- small helps ----

    private static boolean within(int v, int low, int high) {
        return v >= low && v <= high;
    }

    private static int clamp(long v, int low, int high) {
        return (int) Math.max(low, Math.min(high, v));
    }

    private static int slotShift(int factor) {
        return factor * LEVEL_BITS;
    }

    private static int slot(int factor, int level) {
        return factor << LEVEL_BITS | level;
    }

    private static int levelIn(int levels, int factor) {
        return levels >> slotShift(factor) & LEVEL_MASK;
    }

    /** What only a text can set: the factors with their bands, the bound, the seed. */
    private static final class Plan {
        int factorCount;
        int bound;
        int seed;
        final int[] names = new int[MAX_FACTORS];
        final int[] levelCounts = new int[MAX_FACTORS];
        final int[] lows = new int[MAX_FACTORS];
        final int[] highs = new int[MAX_FACTORS];

        Plan() {
            clear();
        }

        void clear() {
            factorCount = 0;
            bound = 10;
            seed = 0;
        }

        void copyFrom(Plan other) {
            factorCount = other.factorCount;
            bound = other.bound;
            seed = other.seed;
            System.arraycopy(other.names, 0, names, 0, MAX_FACTORS);
            System.arraycopy(other.levelCounts, 0, levelCounts, 0, MAX_FACTORS);
            System.arraycopy(other.lows, 0, lows, 0, MAX_FACTORS);
            System.arraycopy(other.highs, 0, highs, 0, MAX_FACTORS);
        }

        void addFactor(int name, int levels) {
            if (factorCount < MAX_FACTORS) {
                names[factorCount] = name;
                levelCounts[factorCount] = levels;
                lows[factorCount] = 1000;
                highs[factorCount] = 50000;
                factorCount++;
            }
        }

        int find(int name) {
            for (int f = 0; f < factorCount; f++) {
                if (names[f] == name) {
                    return f;
                }
            }
            return NONE;
        }

        boolean hasFactor(int factor) {
            return factor >= 0 && factor < factorCount;
        }

        boolean hasLevel(int factor, int level) {
            return hasFactor(factor) && level >= 0 && level < levelCounts[factor];
        }

        /** Whether levels, three bits a factor, names one of each factor and nothing beyond. */
        boolean hasLevels(int levels) {
            if (levels < 0 || levels >> slotShift(factorCount) != 0) {
                return false;
            }
            for (int f = 0; f < factorCount; f++) {
                if (levelIn(levels, f) >= levelCounts[f]) {
                    return false;
                }
            }
            return true;
        }

        int countKinds() {
            int n = 1;
            for (int f = 0; f < factorCount; f++) {
                n *= levelCounts[f];
            }
            return n;
        }
    }

    /** What calls can change and an image keeps. */
    private static final class Book {
        int riskCount;
        int base;
        int capRate;
        int trustWeight;
        int fleetSize;
        int fleetOff;
        // A bit for each slot whose level is joined with the next one.
        int joinBits;
        final int[] exposures = new int[MAX_RISKS];
        final int[] claimsOf = new int[MAX_RISKS];
        final int[] olds = new int[MAX_RISKS];
        final int[] levelsOf = new int[MAX_RISKS];
        final int[] relativities = new int[SLOTS];

        Book() {
            clear();
        }

        void clear() {
            riskCount = 0;
            base = 1000;
            capRate = 250;
            trustWeight = 0;
            fleetSize = MAX_EXPOSURE;
            fleetOff = 0;
            for (int s = 0; s < SLOTS; s++) {
                relativities[s] = ONE;
            }
            joinBits = 0;
        }

        void copyFrom(Book other) {
            riskCount = other.riskCount;
            base = other.base;
            capRate = other.capRate;
            trustWeight = other.trustWeight;
            fleetSize = other.fleetSize;
            fleetOff = other.fleetOff;
            joinBits = other.joinBits;
            System.arraycopy(other.exposures, 0, exposures, 0, MAX_RISKS);
            System.arraycopy(other.claimsOf, 0, claimsOf, 0, MAX_RISKS);
            System.arraycopy(other.olds, 0, olds, 0, MAX_RISKS);
            System.arraycopy(other.levelsOf, 0, levelsOf, 0, MAX_RISKS);
            System.arraycopy(other.relativities, 0, relativities, 0, SLOTS);
        }

        boolean hasRisk(int risk) {
            return risk >= 0 && risk < riskCount;
        }

        void addRisk(int exposure, int claims, int old, int levels) {
            if (riskCount < MAX_RISKS) {
                exposures[riskCount] = exposure;
                claimsOf[riskCount] = claims;
                olds[riskCount] = old;
                levelsOf[riskCount] = levels;
                riskCount++;
            }
        }

        void removeRisk(int risk) {
            if (!hasRisk(risk)) {
                return;
            }
            riskCount--;
            for (int r = risk; r < riskCount; r++) {
                exposures[r] = exposures[r + 1];
                claimsOf[r] = claimsOf[r + 1];
                olds[r] = olds[r + 1];
                levelsOf[r] = levelsOf[r + 1];
            }
        }

        boolean isJoined(int factor, int level) {
            return (joinBits >> slot(factor, level) & 1) != 0;
        }

        boolean startsClass(int factor, int level) {
            return level <= 0 || !isJoined(factor, level - 1);
        }

        int firstOf(int factor, int level) {
            int first = level;
            for (int i = 0; i < MAX_LEVELS && first > 0 && isJoined(factor, first - 1); i++) {
                first--;
            }
            return first;
        }

        int lastOf(int factor, int level) {
            int last = level;
            for (int i = 0; i < MAX_LEVELS && last < MAX_LEVELS - 1 && isJoined(factor, last); i++) {
                last++;
            }
            return last;
        }

        void setClass(int factor, int level, int v) {
            int last = lastOf(factor, level);
            for (int l = firstOf(factor, level); l <= last; l++) {
                relativities[slot(factor, l)] = v;
            }
        }

        void setAll(int factor, int v) {
            for (int l = 0; l < MAX_LEVELS; l++) {
                relativities[slot(factor, l)] = v;
            }
        }

        void joinToNext(int factor, int level) {
            mark(factor, level);
            setClass(factor, level, relativities[slot(factor, level)]);
        }

        void mark(int factor, int level) {
            joinBits |= 1 << slot(factor, level);
        }

        void part(int factor, int level) {
            joinBits &= ~(1 << slot(factor, level));
        }

        long sumOf(int[] row) {
            long sum = 0;
            for (int r = 0; r < riskCount && r < row.length; r++) {
                sum += row[r];
            }
            return sum;
        }

        int countFleets() {
            int n = 0;
            for (int r = 0; r < riskCount; r++) {
                if (exposures[r] >= fleetSize) {
                    n++;
                }
            }
            return n;
        }

        int countKinds() {
            int n = 0;
            for (int r = 0; r < riskCount; r++) {
                if (isFirstOfKind(r)) {
                    n++;
                }
            }
            return n;
        }

        boolean isFirstOfKind(int risk) {
            for (int r = 0; r < risk; r++) {
                if (levelsOf[r] == levelsOf[risk]) {
                    return false;
                }
            }
            return true;
        }

        void drawClaims(int seed, int n, int claimsModulus) {
            long last = seed;
            for (int i = 0; i < n; i++) {
                last = numberBehind(last);
                int r = drawn(last, riskCount);
                last = numberBehind(last);
                if (hasRisk(r)) {
                    claimsOf[r] = drawn(last, claimsModulus);
                }
            }
        }

        static long numberBehind(long last) {
            return (last * 1103515245L + 12345L) & 0x7fffffffL;
        }

        static int drawn(long number, int modulus) {
            return modulus <= 0 ? 0 : (int) ((number >> 16) % modulus);
        }
    }

    /** A book's premiums and margins under a plan, and what brings them into balance. */
    private static final class Fit {
        final Plan plan;
        final Book book;
        final long[] premiums = new long[MAX_RISKS];
        // Sums of a class stand at the slot of its first level.
        final long[] claimSums = new long[SLOTS];
        final long[] premiumSums = new long[SLOTS];
        final long[] exposureSums = new long[SLOTS];
        final int[] riskSums = new int[SLOTS];

        Fit(Plan plan, Book book) {
            this.plan = plan;
            this.book = book;
        }

        long behindFactors(int exposure, int levels, int n) {
            long p = (long) exposure * book.base;
            int rest = levels;
            for (int f = 0; f < n && f < MAX_FACTORS; f++) {
                p = p * book.relativities[f << LEVEL_BITS | rest & LEVEL_MASK] / ONE;
                rest >>= LEVEL_BITS;
            }
            return p;
        }

        long premiumFor(int exposure, int levels) {
            long p = behindFactors(exposure, levels, plan.factorCount);
            return exposure >= book.fleetSize ? p - p * book.fleetOff / 1000 : p;
        }

        long premiumOf(int risk) {
            return book.hasRisk(risk) ? premiumFor(book.exposures[risk], book.levelsOf[risk]) : 0;
        }

        void price() {
            for (int r = 0; r < book.riskCount; r++) {
                premiums[r] = premiumFor(book.exposures[r], book.levelsOf[r]);
            }
        }

        long sumPaid() {
            price();
            long sum = 0;
            for (int r = 0; r < book.riskCount; r++) {
                sum += premiums[r];
            }
            return sum;
        }

        void measure(int factor) {
            price();
            gather(factor);
        }

        /** Needs price() ahead; several factors can be gathered behind one of it. */
        void gather(int factor) {
            for (int l = 0; l <= LEVEL_MASK; l++) {
                int s = slot(factor, l);
                claimSums[s] = 0;
                premiumSums[s] = 0;
                exposureSums[s] = 0;
                riskSums[s] = 0;
            }
            for (int r = 0; r < book.riskCount; r++) {
                int s = slot(factor, levelIn(book.levelsOf[r], factor));
                claimSums[s] += book.claimsOf[r];
                premiumSums[s] += premiums[r];
                exposureSums[s] += book.exposures[r];
                riskSums[s]++;
            }
            for (int l = MAX_LEVELS - 1; l > 0; l--) {
                if (book.isJoined(factor, l - 1)) {
                    addToLower(slot(factor, l));
                }
            }
        }

        void addToLower(int s) {
            if (s > 0) {
                claimSums[s - 1] += claimSums[s];
                premiumSums[s - 1] += premiumSums[s];
                exposureSums[s - 1] += exposureSums[s];
                riskSums[s - 1] += riskSums[s];
            }
        }

        long differsBy(int s) {
            return Math.abs(claimSums[s] - premiumSums[s]);
        }

        boolean balances(int factor, int first) {
            int s = slot(factor, first);
            if (riskSums[s] == 0 || differsBy(s) * 1000 <= plan.bound * claimSums[s]) {
                return true;
            }
            int r = book.relativities[s];
            return r == plan.lows[factor] && premiumSums[s] > claimSums[s]
                    || r == plan.highs[factor] && premiumSums[s] < claimSums[s];
        }

        boolean isOff(int factor, int level) {
            return book.startsClass(factor, level) && !balances(factor, level);
        }

        boolean isFilledClass(int factor, int level) {
            return book.startsClass(factor, level) && riskSums[slot(factor, level)] > 0;
        }

        int countUnbalanced() {
            price();
            int n = 0;
            for (int f = 0; f < plan.factorCount; f++) {
                gather(f);
                for (int l = 0; l < plan.levelCounts[f]; l++) {
                    if (isOff(f, l)) {
                        n++;
                    }
                }
            }
            return n;
        }

        long sumMisfit() {
            price();
            long sum = 0;
            for (int f = 0; f < plan.factorCount; f++) {
                gather(f);
                for (int l = 0; l < plan.levelCounts[f]; l++) {
                    if (isFilledClass(f, l)) {
                        sum += differsBy(slot(f, l));
                    }
                }
            }
            return sum;
        }

        int worstSlot() {
            price();
            int found = NOT_SO;
            long most = 0;
            for (int f = 0; f < plan.factorCount; f++) {
                gather(f);
                for (int l = 0; l < plan.levelCounts[f]; l++) {
                    int s = slot(f, l);
                    if (isOff(f, l) && (found == NOT_SO || differsBy(s) > most)) {
                        most = differsBy(s);
                        found = s;
                    }
                }
            }
            return found;
        }

        int farthestOff(int factor) {
            measure(factor);
            int found = NOT_SO;
            long most = 0;
            for (int l = 0; l < plan.levelCounts[factor]; l++) {
                int s = slot(factor, l);
                if (isFilledClass(factor, l) && (found == NOT_SO || differsBy(s) > most)) {
                    most = differsBy(s);
                    found = l;
                }
            }
            return found;
        }

        int countClasses(int factor) {
            int n = 0;
            for (int l = 0; l < plan.levelCounts[factor]; l++) {
                if (book.startsClass(factor, l)) {
                    n++;
                }
            }
            return n;
        }

        int countAllClasses(boolean emptyOnly) {
            price();
            int n = 0;
            for (int f = 0; f < plan.factorCount; f++) {
                gather(f);
                for (int l = 0; l < plan.levelCounts[f]; l++) {
                    if (book.startsClass(f, l) && !(emptyOnly && isFilledClass(f, l))) {
                        n++;
                    }
                }
            }
            return n;
        }

        int countAt(int factor, int end) {
            int n = 0;
            for (int l = 0; l < plan.levelCounts[factor]; l++) {
                if (book.startsClass(factor, l) && book.relativities[slot(factor, l)] == end) {
                    n++;
                }
            }
            return n;
        }

        /** A TURN: how many classes have another relativity then. */
        int turnOnce(int factor) {
            price();
            gather(factor);
            int others = 0;
            int v = ONE;
            for (int l = 0; l < plan.levelCounts[factor]; l++) {
                int s = slot(factor, l);
                if (book.startsClass(factor, l)) {
                    v = turned(factor, s);
                    others += v == book.relativities[s] ? 0 : 1;
                }
                book.relativities[s] = v;
            }
            return others;
        }

        /** What the relativity of the class at a slot becomes; an empty one has no premiums. */
        int turned(int factor, int s) {
            int r = book.relativities[s];
            long paid = premiumSums[s];
            if (paid <= 0) {
                return r;
            }
            int v = clamp(r * claimSums[s] / paid, plan.lows[factor], plan.highs[factor]);
            long weights = exposureSums[s] + book.trustWeight;
            if (book.trustWeight <= 0 || weights <= 0) {
                return v;
            }
            return (int) (r + Math.floorDiv((v - r) * exposureSums[s], weights));
        }

        /**
         * Rounds without a turn for one factor, NONE for all: whether the last one changed something.
         * A round that changes nothing would change nothing again, so no more are played behind it.
         */
        boolean playRounds(int n, int except) {
            boolean moves = true;
            for (int i = 0; i < n && moves; i++) {
                moves = false;
                for (int f = 0; f < plan.factorCount; f++) {
                    if (f != except && turnOnce(f) > 0) {
                        moves = true;
                    }
                }
            }
            return moves;
        }

        int roundsTillBalance(int n) {
            boolean moves = true;
            for (int i = 0; i <= n && moves; i++) {
                if (countUnbalanced() == 0) {
                    return i;
                }
                moves = playRounds(1, NONE);
            }
            return NOT_SO;
        }

        void rebaseBook() {
            long paid = sumPaid();
            if (paid > 0) {
                book.base = clamp(book.base * book.sumOf(book.claimsOf) / paid, 1, MAX_AMOUNT);
            }
        }

        void levelBook() {
            if (book.riskCount == 0) {
                return;
            }
            for (int f = 0; f < plan.factorCount; f++) {
                measure(f);
                int r = book.relativities[widestClass(f)];
                if (r > 0) {
                    book.base = clamp((long) book.base * r / ONE, 1, MAX_AMOUNT);
                    divideRelativities(f, r);
                }
            }
        }

        int widestClass(int factor) {
            int found = slot(factor, 0);
            for (int l = 1; l < plan.levelCounts[factor]; l++) {
                int s = slot(factor, l);
                if (book.startsClass(factor, l) && exposureSums[s] > exposureSums[found]) {
                    found = s;
                }
            }
            return found;
        }

        void divideRelativities(int factor, int r) {
            if (r <= 0) {
                return;
            }
            for (int l = 0; l < plan.levelCounts[factor]; l++) {
                int s = slot(factor, l);
                long v = (long) book.relativities[s] * ONE / r;
                book.relativities[s] = clamp(v, plan.lows[factor], plan.highs[factor]);
            }
        }
    }

    /** New premiums held to the old ones, and the factor by which they keep the whole. */
    private static final class Capping {
        final Fit fit;
        final Book book;
        final long[] cappedOnes = new long[MAX_RISKS];
        int offBalanceFound;
        int scale;

        Capping(Fit fit) {
            this.fit = fit;
            this.book = fit.book;
        }

        /** Looks for OFF-BALANCE and caps all risks by it, or by 10000 if there is none. */
        void settle() {
            fit.price();
            offBalanceFound = searchOffBalance();
            scale = offBalanceFound == NOT_SO ? ONE : offBalanceFound;
            for (int r = 0; r < book.riskCount; r++) {
                cappedOnes[r] = cappedBy(r, scale, book.capRate);
            }
        }

        long scaled(int risk, int f) {
            return fit.premiums[risk] * f / ONE;
        }

        long leeway(int risk, int cap) {
            return (long) book.olds[risk] * cap / 1000;
        }

        long cappedBy(int risk, int f, int cap) {
            long old = book.olds[risk];
            long leeway = leeway(risk, cap);
            return Math.max(old - leeway, Math.min(old + leeway, scaled(risk, f)));
        }

        long sumBy(int f, int cap) {
            long sum = 0;
            for (int r = 0; r < book.riskCount; r++) {
                sum += cappedBy(r, f, cap);
            }
            return sum;
        }

        /** Needs price() ahead. The sum never shrinks as f grows, so the least f is found by halving. */
        int searchOffBalance() {
            long whole = book.sumOf(book.claimsOf);
            if (sumBy(MAX_AMOUNT, book.capRate) < whole) {
                return NOT_SO;
            }
            int low = 0;
            int high = MAX_AMOUNT;
            for (int i = 0; i < MAX_HALVINGS && low < high; i++) {
                int middle = (low + high) >> 1;
                if (sumBy(middle, book.capRate) >= whole) {
                    high = middle;
                } else {
                    low = middle + 1;
                }
            }
            return high;
        }

        /** A wider cap can lower the sum, too, so each one is tried, by the greatest f. */
        int searchCap() {
            fit.price();
            long whole = book.sumOf(book.claimsOf);
            for (int cap = 0; cap <= MAX_THOUSANDTHS; cap++) {
                if (sumBy(MAX_AMOUNT, cap) >= whole) {
                    return cap;
                }
            }
            return NOT_SO;
        }

        long sumCapped() {
            long sum = 0;
            for (int r = 0; r < book.riskCount; r++) {
                sum += cappedOnes[r];
            }
            return sum;
        }

        long changeOf(int risk) {
            return cappedOnes[risk] - book.olds[risk];
        }

        boolean isChanged(int risk, int what) {
            switch (what) {
                case 0:
                    return changeOf(risk) > 0;
                case 1:
                    return changeOf(risk) < 0;
                case 2:
                    return scaled(risk, scale) < cappedOnes[risk];
                default:
                    return scaled(risk, scale) > cappedOnes[risk];
            }
        }

        int rankOf(int risk) {
            int ahead = 0;
            for (int r = 0; r < book.riskCount; r++) {
                long more = changeOf(r) - changeOf(risk);
                if (more < 0 || more == 0 && r < risk) {
                    ahead++;
                }
            }
            return ahead;
        }
    }

    /** The tokens of a text, with their places. */
    private static final class Tokens {
        static final int END = 0;
        static final int WORD = 1;
        static final int NAME = 2;
        static final int NUMBER = 3;
        static final int STOP = 4;
        static final int NO_TOKEN = 5;

        static final int FACTOR = 0;
        static final int BAND = 1;
        static final int JOIN = 2;
        static final int RISK = 3;
        static final int BASE = 4;
        static final int BOUND = 5;
        static final int CAP = 6;
        static final int TRUST = 7;
        static final int FLEET = 8;
        static final int SEED = 9;

        // In the order of the numbers above; a blank ends each.
        static final String WORDS = "factor band join risk base bound cap trust fleet seed ";
        static final int NAME_LETTERS = 6;
        static final int LETTER_BITS = 5;
        static final int BEYOND_ALL = 1000000;

        // One more than bytes, for the end.
        final int[] kinds = new int[MAX_TAPE + 1];
        final int[] values = new int[MAX_TAPE + 1];
        final int[] places = new int[MAX_TAPE + 1];
        int size;
        int at;

        void scan(byte[] bytes, int n) {
            int length = Math.max(0, Math.min(n, Math.min(bytes.length, MAX_TAPE)));
            size = 0;
            at = 0;
            for (int i = 0; i < length && at < length; i++) {
                int c = bytes[at];
                if (isLetter(c)) {
                    scanWord(bytes, length);
                } else if (isDigit(c)) {
                    scanNumber(bytes, length);
                } else {
                    if (c != ' ' && c != '\n') {
                        put(c == ';' ? STOP : NO_TOKEN, 0, at);
                    }
                    at++;
                }
            }
            put(END, 0, length);
        }

        void put(int kind, int value, int place) {
            if (size >= 0 && size < kinds.length) {
                kinds[size] = kind;
                values[size] = value;
                places[size] = place;
                size++;
            }
        }

        void scanWord(byte[] bytes, int length) {
            int place = at;
            int packed = 0;
            for (int i = place; i < length && isLetter(bytes[i]); i++) {
                packed |= letterBits(bytes[i], i - place);
                at = i + 1;
            }
            int number = wordNumber(packed);
            if (at - place > NAME_LETTERS) {
                put(NO_TOKEN, 0, place);
            } else if (number != NONE) {
                put(WORD, number, place);
            } else {
                put(NAME, packed, place);
            }
        }

        void scanNumber(byte[] bytes, int length) {
            int place = at;
            int value = 0;
            for (int i = place; i < length && isDigit(bytes[i]); i++) {
                value = Math.min(BEYOND_ALL, value * 10 + bytes[i] - '0');
                at = i + 1;
            }
            put(NUMBER, value, place);
        }

        static boolean isLetter(int c) {
            return c >= 'a' && c <= 'z';
        }

        static boolean isDigit(int c) {
            return c >= '0' && c <= '9';
        }

        /** A letter as named() has it; those behind the sixth leave no trace. */
        static int letterBits(int letter, int index) {
            int behind = NAME_LETTERS - 1 - index;
            return behind < 0 ? 0 : (letter - 'a' + 1) << (behind * LETTER_BITS);
        }

        static int wordNumber(int packed) {
            int number = 0;
            int letters = 0;
            int word = 0;
            for (int i = 0; i < WORDS.length(); i++) {
                char c = WORDS.charAt(i);
                if (c != ' ') {
                    word |= letterBits(c, letters);
                    letters++;
                } else if (word == packed) {
                    return number;
                } else {
                    number++;
                    letters = 0;
                    word = 0;
                }
            }
            return NONE;
        }
    }

    /** Reads a text into a plan and a book of its own, up to the first fault. */
    private static final class Reader {
        static final int MISPLACED = 1;
        static final int TOO_MUCH = 2;
        static final int TOLD = 3;
        static final int UNTOLD = 4;

        final Tokens tokens = new Tokens();
        final Plan plan = new Plan();
        final Book book = new Book();
        int next;
        int kind;
        int value;
        int place;
        // A bit for each word of a setting, for each factor with a band.
        int wordsTold;
        int bandsTold;
        int faultKind;
        int faultPlace;

        /** How many lines the first n bytes have; faultKind tells whether they are a text. */
        int readText(byte[] bytes, int n) {
            plan.clear();
            book.clear();
            wordsTold = 0;
            bandsTold = 0;
            faultKind = 0;
            faultPlace = NONE;
            tokens.scan(bytes, n);
            next = 0;
            advance();
            int lines = 0;
            for (int i = 0; i < tokens.size && kind != Tokens.END && faultKind == 0; i++) {
                readLine();
                lines++;
            }
            return lines;
        }

        /** Goes on to the next token; behind the last one, the end, it stays. */
        void advance() {
            if (next >= 0 && next < tokens.size) {
                kind = tokens.kinds[next];
                value = tokens.values[next];
                place = tokens.places[next];
                next++;
            }
        }

        void fail(int fault) {
            if (faultKind == 0) {
                faultKind = fault;
                faultPlace = place;
            }
        }

        void readLine() {
            if (kind != Tokens.WORD) {
                fail(MISPLACED);
                return;
            }
            switch (value) {
                case Tokens.FACTOR:
                    readFactor();
                    break;
                case Tokens.BAND:
                    readBand();
                    break;
                case Tokens.JOIN:
                    readJoin();
                    break;
                case Tokens.RISK:
                    readRisk();
                    break;
                default:
                    readSetting(value);
                    break;
            }
            takeStop();
        }

        void takeStop() {
            if (kind != Tokens.STOP) {
                fail(MISPLACED);
            }
            if (faultKind == 0) {
                advance();
            }
        }

        /** The number that is here, and goes on; with a fault it stays and answers low. */
        int takeNumber(int low, int high) {
            if (kind != Tokens.NUMBER) {
                fail(MISPLACED);
            } else if (value < low || value > high) {
                fail(TOO_MUCH);
            }
            if (faultKind != 0) {
                return low;
            }
            int number = value;
            advance();
            return number;
        }

        /** The factor that the name here tells, NONE with a fault; it doesn't go on. */
        int factorHere() {
            int f = kind == Tokens.NAME ? plan.find(value) : NONE;
            if (kind != Tokens.NAME) {
                fail(MISPLACED);
            } else if (f == NONE) {
                fail(UNTOLD);
            }
            return f;
        }

        void readFactor() {
            if (book.riskCount > 0) {
                fail(MISPLACED);
                return;
            }
            if (plan.factorCount >= MAX_FACTORS) {
                fail(TOO_MUCH);
                return;
            }
            advance();
            int name = value;
            if (kind != Tokens.NAME) {
                fail(MISPLACED);
                return;
            }
            if (plan.find(name) != NONE) {
                fail(TOLD);
                return;
            }
            advance();
            plan.addFactor(name, takeNumber(1, MAX_LEVELS));
        }

        void readBand() {
            advance();
            int f = factorHere();
            if (!plan.hasFactor(f)) {
                return;
            }
            if ((bandsTold >> f & 1) != 0) {
                fail(TOLD);
                return;
            }
            bandsTold |= 1 << f;
            advance();
            plan.lows[f] = takeNumber(1, ONE);
            plan.highs[f] = takeNumber(ONE, MAX_AMOUNT);
        }

        void readJoin() {
            advance();
            int f = factorHere();
            if (!plan.hasFactor(f)) {
                return;
            }
            advance();
            int level = value;
            if (kind == Tokens.NUMBER && plan.hasLevel(f, level) && book.isJoined(f, level)) {
                fail(TOLD);
                return;
            }
            takeNumber(0, plan.levelCounts[f] - 2);
            if (faultKind == 0) {
                book.mark(f, level);
            }
        }

        void readRisk() {
            if (book.riskCount >= MAX_RISKS) {
                fail(TOO_MUCH);
                return;
            }
            advance();
            int exposure = takeNumber(1, MAX_EXPOSURE);
            int claims = takeNumber(0, MAX_AMOUNT);
            int old = takeNumber(1, MAX_AMOUNT);
            int levels = 0;
            for (int f = 0; f < plan.factorCount; f++) {
                levels |= takeNumber(0, plan.levelCounts[f] - 1) << slotShift(f);
            }
            if (faultKind == 0) {
                book.addRisk(exposure, claims, old, levels);
            }
        }

        void readSetting(int word) {
            if ((wordsTold >> word & 1) != 0) {
                fail(TOLD);
                return;
            }
            wordsTold |= 1 << word;
            advance();
            switch (word) {
                case Tokens.BASE:
                    book.base = takeNumber(1, MAX_AMOUNT);
                    break;
                case Tokens.BOUND:
                    plan.bound = takeNumber(0, MAX_THOUSANDTHS);
                    break;
                case Tokens.CAP:
                    book.capRate = takeNumber(0, MAX_THOUSANDTHS);
                    break;
                case Tokens.TRUST:
                    book.trustWeight = takeNumber(0, MAX_THOUSANDTHS);
                    break;
                case Tokens.FLEET:
                    book.fleetSize = takeNumber(1, MAX_EXPOSURE);
                    book.fleetOff = takeNumber(0, MAX_OFF);
                    break;
                case Tokens.SEED:
                    plan.seed = takeNumber(0, MAX_AMOUNT);
                    break;
                default:
                    fail(MISPLACED);
                    break;
            }
        }
    }
}
