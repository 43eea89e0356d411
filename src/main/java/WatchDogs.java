import java.util.Arrays;

/**
 * Dogs that watch a program: it must feed them by a row of signs, or they bite and all begins anew.
 * The words in capitals are those of the document's Terms.
 */
public final class WatchDogs {
    public static final int BAD = -1, STATE = -2, FULL = -3, NONE = -4;

    private static final int PLAIN = 0, WINDOW = 1, TWICE = 2, HALF = 3;
    private static final int MOST_DOGS = 4, MOST_SIGNS = 16, MOST_JAMS = 4, MOST_SEEN = 6;
    private static final int MOST_IMAGES = 2, MOST_SHEETS = 4, MOST_CELLS = 40, MOST_PAIRS = 20;
    private static final int MOST_LIMIT = 20, MOST_BITS = 15, MOST_RESETS = 999;
    private static final int LAST_JAM_TICK = 99, LONGEST_JAM = 40;
    private static final int TAPE_BYTES = 160, LAST_BYTE = 127;
    private static final int TICKS_AT_ONCE = 100, TICKS_END = 10000, FORESIGHT = 200, LAST_SEEN_TICK = 40;
    private static final int MOST_LOSSES = 8, ODDS = 10;
    private static final int NULL_FAULT = 1, INDEX_FAULT = 2, CAST_FAULT = 3, SIZE_FAULT = 4;

    private final Pack now = new Pack();
    private final Trial trial = new Trial();
    private final Tape tape = new Tape();
    private final Sheets sheets = new Sheets();
    private final Pack[] images = new Pack[MOST_IMAGES];
    private final boolean[] kept = new boolean[MOST_IMAGES];
    private int torn;

    public WatchDogs() {
        for (int k = 0; k < MOST_IMAGES; k++) {
            images[k] = new Pack();
        }
    }

    // ---- the text

    public int feed(int c) {
        if (outside(c, 0, LAST_BYTE)) {
            return BAD;
        }
        if (tape.length >= TAPE_BYTES) {
            return FULL;
        }
        tape.bytes[tape.length] = (byte) c;
        tape.length++;
        return tape.length;
    }

    public int end(int n) {
        if (outside(n, 0, tape.length)) {
            return BAD;
        }
        int had = tape.length;
        tape.length = n;
        return had;
    }

    public int text() {
        tape.begin();
        // A line has a byte at least, so there are no more lines than bytes.
        for (int i = 0; i < TAPE_BYTES && tape.hasLine(); i++) {
            tape.readLine();
        }
        tape.length = 0;
        if (tape.fault != 0) {
            return -10 - tape.faultAt;
        }
        now.copyOf(tape.draft);
        for (int k = 0; k < MOST_IMAGES; k++) {
            kept[k] = false;
        }
        return tape.lines;
    }

    public int fault() {
        return tape.fault;
    }

    public int rule(int what) {
        switch (what) {
            case 0: return now.dogs;
            case 1: return now.signs;
            case 2: return now.jams;
            case 3: return now.tick;
            case 4: return now.resets;
            case 5: return now.place;
            case 6: return now.isStuck() ? 1 : 0;
            case 7: return now.last;
            case 8: return now.free;
            default: return BAD;
        }
    }

    public int dog(int d, int what) {
        if (noDog(d)) {
            return BAD;
        }
        switch (what) {
            case 0: return now.kindOf[d];
            case 1: return now.limitOf[d];
            case 2: return now.countOf[d];
            case 3: return now.barksOf[d];
            default: return BAD;
        }
    }

    public int sign(int i) {
        return noSign(i) ? BAD : now.signAt[i];
    }

    public int jam(int i, int what) {
        if (outside(i, 0, now.jams - 1) || outside(what, 0, 1)) {
            return BAD;
        }
        return what == 0 ? now.jamFrom[i] : now.jamFor[i];
    }

    // ---- what is changed

    public int alter(int d, int what, int v) {
        if (noDog(d) || outside(what, 0, 1)) {
            return BAD;
        }
        return what == 0 ? alterKind(d, v) : alterLimit(d, v);
    }

    private int alterKind(int d, int v) {
        if (outside(v, PLAIN, HALF)) {
            return BAD;
        }
        int was = now.kindOf[d];
        now.kindOf[d] = v;
        return was;
    }

    private int alterLimit(int d, int v) {
        if (outside(v, 1, MOST_LIMIT)) {
            return BAD;
        }
        int was = now.limitOf[d];
        now.limitOf[d] = v;
        return was;
    }

    public int set(int i, int v) {
        if (noSign(i) || outside(v, 0, MOST_BITS)) {
            return BAD;
        }
        int was = now.signAt[i];
        now.signAt[i] = v;
        return was;
    }

    public int add(int v) {
        if (outside(v, 0, MOST_BITS)) {
            return BAD;
        }
        if (now.signs >= MOST_SIGNS) {
            return FULL;
        }
        now.addSign(v);
        return now.signs;
    }

    public int cut(int n) {
        if (outside(n, 0, now.signs)) {
            return BAD;
        }
        int had = now.signs;
        now.signs = n;
        if (now.place >= n) {
            now.place = 0;
        }
        return had;
    }

    public int stick(int t, int n) {
        if (outside(t, 0, LAST_JAM_TICK) || outside(n, 1, LONGEST_JAM)) {
            return BAD;
        }
        if (now.jams >= MOST_JAMS) {
            return FULL;
        }
        now.addJam(t, n);
        return now.jams;
    }

    public int clear(int n) {
        if (outside(n, 0, now.jams)) {
            return BAD;
        }
        int had = now.jams;
        now.jams = n;
        return had;
    }

    public int bone(int d) {
        if (noDog(d)) {
            return BAD;
        }
        if (!now.bitesFed(d)) {
            return 0;
        }
        now.beginAnew(d, now.tick);
        return 1;
    }

    // ---- ticks

    public int ticks(int n) {
        if (outside(n, 0, TICKS_AT_ONCE)) {
            return BAD;
        }
        if (now.tick + n >= TICKS_END) {
            return FULL;
        }
        trial.begin(now);
        trial.walk(n);
        now.copyOf(trial.pack);
        return trial.resets;
    }

    public int runs(int n, int what) {
        if (outside(n, 0, FORESIGHT) || outside(what, 0, 3)) {
            return BAD;
        }
        trial.begin(now);
        trial.walk(n);
        switch (what) {
            case 0: return trial.resets;
            case 1: return trial.stuckTicks;
            case 2: return trial.barks;
            default: return trial.meals;
        }
    }

    public int ahead(int d, int n, int what) {
        if (noDog(d) || outside(n, 0, FORESIGHT) || outside(what, 0, 2)) {
            return BAD;
        }
        trial.begin(now);
        trial.walk(n);
        switch (what) {
            case 0: return trial.pack.countOf[d];
            case 1: return trial.pack.barksOf[d];
            default: return trial.bitesOf[d];
        }
    }

    public int when() {
        trial.begin(now);
        for (int t = 0; t <= FORESIGHT; t++) {
            if (trial.step(trial.pack.nextSign())) {
                return t;
            }
        }
        return NONE;
    }

    // ---- what is best

    public int need(int d, int n) {
        if (noDog(d) || outside(n, 0, FORESIGHT)) {
            return BAD;
        }
        for (int limit = 1; limit <= MOST_LIMIT; limit++) {
            if (!bitesWithin(d, limit, n)) {
                return limit;
            }
        }
        return NONE;
    }

    public int most(int d, int n) {
        if (noDog(d) || outside(n, 0, FORESIGHT)) {
            return BAD;
        }
        for (int limit = MOST_LIMIT; limit >= 1; limit--) {
            if (bitesWithin(d, limit, n)) {
                return limit;
            }
        }
        return NONE;
    }

    private boolean bitesWithin(int d, int limit, int n) {
        trial.begin(now);
        trial.pack.limitOf[d] = limit;
        trial.walk(n);
        return trial.bitesOf[d] > 0;
    }

    public int kind(int d, int n, int what) {
        if (noDog(d) || outside(n, 0, FORESIGHT) || outside(what, 0, 1)) {
            return BAD;
        }
        int best = PLAIN;
        int fewest = n + 1;
        for (int k = PLAIN; k <= HALF; k++) {
            trial.begin(now);
            trial.pack.kindOf[d] = k;
            int resets = trial.resetsBelow(fewest, n);
            if (resets < fewest) {
                fewest = resets;
                best = k;
            }
        }
        return what == 0 ? best : fewest;
    }

    public int swap(int n, int what) {
        if (outside(n, 0, FORESIGHT) || outside(what, 0, 1)) {
            return BAD;
        }
        int best = NONE;
        int fewest = resetsAsItIs(n);
        for (int i = 0; i < now.signs; i++) {
            for (int j = i + 1; j < now.signs; j++) {
                int resets = resetsSwapped(i, j, fewest, n);
                if (resets < fewest) {
                    fewest = resets;
                    best = 100 * i + j;
                }
            }
        }
        return best == NONE || what == 0 ? best : fewest;
    }

    private int resetsSwapped(int i, int j, int bound, int n) {
        // Equal SIGNS change nothing, so no walk is needed to know that there are not fewer.
        if (now.signAt[i] == now.signAt[j]) {
            return bound;
        }
        trial.begin(now);
        trial.pack.signAt[i] = now.signAt[j];
        trial.pack.signAt[j] = now.signAt[i];
        return trial.resetsBelow(bound, n);
    }

    public int sleep(int n, int what) {
        if (outside(n, 0, FORESIGHT) || outside(what, 0, 1)) {
            return BAD;
        }
        int best = NONE;
        int fewest = resetsAsItIs(n);
        for (int d = 0; d < now.dogs; d++) {
            trial.begin(now);
            trial.sleeper = d;
            int resets = trial.resetsBelow(fewest, n);
            if (resets < fewest) {
                fewest = resets;
                best = d;
            }
        }
        return best == NONE || what == 0 ? best : fewest;
    }

    private int resetsAsItIs(int n) {
        trial.begin(now);
        trial.walk(n);
        return trial.resets;
    }

    // ---- signs that are lost

    public long luck(int v, int n, int what) {
        if (outside(v, 0, ODDS) || outside(n, 0, MOST_LOSSES) || outside(what, 0, 1)) {
            return BAD;
        }
        long sum = 0;
        for (int lost = 0; lost < 1 << n; lost++) {
            long weight = weightOf(lost, v, n);
            if (weight > 0 && resetsLosing(lost, n) == 0) {
                sum += weight;
            }
        }
        return partOfFraction(sum, power(ODDS, n), what);
    }

    public long mean(int v, int n, int what) {
        if (outside(v, 0, ODDS) || outside(n, 0, MOST_LOSSES) || outside(what, 0, 1)) {
            return BAD;
        }
        long sum = 0;
        for (int lost = 0; lost < 1 << n; lost++) {
            long weight = weightOf(lost, v, n);
            if (weight > 0) {
                sum += weight * resetsLosing(lost, n);
            }
        }
        return partOfFraction(sum, power(ODDS, n), what);
    }

    /** How many of all 10 to the n ways lose just those TICKS whose bits are set in lost. */
    private static long weightOf(int lost, int v, int n) {
        int losses = Integer.bitCount(lost);
        return power(v, losses) * power(ODDS - v, n - losses);
    }

    private int resetsLosing(int lost, int n) {
        trial.begin(now);
        for (int t = 0; t < n; t++) {
            // The SIGN is taken even if it is lost: PLACE goes on as it does.
            int sign = trial.pack.nextSign();
            trial.step((lost >> t & 1) == 1 ? 0 : sign);
        }
        return trial.resets;
    }

    private static long power(int base, int exponent) {
        long product = 1;
        for (int i = 0; i < exponent; i++) {
            product *= base;
        }
        return product;
    }

    private static long partOfFraction(long numerator, long denominator, int what) {
        long divisor = commonDivisor(numerator, denominator);
        if (divisor == 0) {
            return 0;
        }
        return (what == 0 ? numerator : denominator) / divisor;
    }

    private static long commonDivisor(long a, long b) {
        long x = a;
        long y = b;
        // Euclid halves the numbers every two turns: 128 turns are above what two longs can need.
        for (int turn = 0; turn < 128 && y != 0; turn++) {
            long rest = x % y;
            x = y;
            y = rest;
        }
        return x;
    }

    // ---- from when all began anew

    public int see(int n, int v) {
        if (outside(n, 0, LAST_SEEN_TICK) || outside(v, 0, 1)) {
            return BAD;
        }
        if (now.seen >= MOST_SEEN) {
            return FULL;
        }
        now.addSeen(n, v);
        return now.seen;
    }

    public int forget(int n) {
        if (outside(n, 0, now.seen)) {
            return BAD;
        }
        int had = now.seen;
        now.seen = n;
        return had;
    }

    public int kinds(int d) {
        if (noDog(d)) {
            return BAD;
        }
        int bits = 0;
        for (int k = PLAIN; k <= HALF; k++) {
            trial.begin(now);
            trial.pack.kindOf[d] = k;
            if (now.isAsSeen(trial.resetBits())) {
                bits |= 1 << k;
            }
        }
        return bits;
    }

    public int limits(int d) {
        if (noDog(d)) {
            return BAD;
        }
        int bits = 0;
        for (int limit = 1; limit <= MOST_LIMIT; limit++) {
            if (now.isAsSeen(resetBitsByLimit(d, limit))) {
                bits |= 1 << limit;
            }
        }
        return bits;
    }

    private long resetBitsByLimit(int d, int limit) {
        trial.begin(now);
        trial.pack.limitOf[d] = limit;
        return trial.resetBits();
    }

    public int ask(int d, int what) {
        if (noDog(d) || outside(what, 0, 1)) {
            return BAD;
        }
        int all = trial.gatherLimits(now, d);
        int best = NONE;
        int fewest = all;
        for (int t = 0; t <= LAST_SEEN_TICK; t++) {
            int biting = trial.resetsByLimit[t];
            int worst = Math.max(biting, all - biting);
            if (worst < fewest) {
                fewest = worst;
                best = t;
            }
        }
        return best == NONE || what == 0 ? best : fewest;
    }

    // ---- by a seed

    public int drift(int seed, int n, int what) {
        if (outside(n, 1, FORESIGHT) || outside(what, 0, 1)) {
            return BAD;
        }
        if (now.dogs == 0) {
            return STATE;
        }
        trial.begin(now);
        int state = seed;
        for (int t = 0; t < n; t++) {
            state = state * 1103515245 + 12345;
            int got = state >>> 16 & 32767;
            trial.step(trial.pack.isStuck() ? 0 : got % 16);
        }
        return what == 0 ? trial.resets : trial.pack.countsSummed();
    }

    // ---- images, sheets

    public int keep(int k) {
        if (outside(k, 0, MOST_IMAGES - 1)) {
            return BAD;
        }
        int had = kept[k] ? 1 : 0;
        images[k].copyOf(now);
        kept[k] = true;
        return had;
    }

    public int back(int k) {
        if (outside(k, 0, MOST_IMAGES - 1)) {
            return BAD;
        }
        if (!kept[k]) {
            return STATE;
        }
        now.copyOf(images[k]);
        return now.tick;
    }

    public int sheet(int k, int lane, int n) {
        if (noSheet(k) || noLane(lane) || n > MOST_CELLS) {
            return BAD;
        }
        if (n < 0) {
            return -10 - SIZE_FAULT;
        }
        sheets.renew(k, lane, n);
        return 1;
    }

    public int lay(int k, int i, int v) {
        if (noSheet(k)) {
            return BAD;
        }
        int met = sheets.faultOf(k, sheets.laneOf[k], i);
        if (met != 0) {
            return -10 - met;
        }
        sheets.write(k, i, v);
        return 1;
    }

    public int read(int k, int lane, int f, int n) {
        if (noSheet(k) || noLane(lane) || outside(n, 0, MOST_PAIRS)) {
            return BAD;
        }
        int met = 0;
        int whole = 0;
        // Nothing is set before all are looked at: one that is refused lets none come.
        for (int i = 0; i < n && met == 0; i++) {
            met = sheets.faultOfPair(k, lane, f + 2 * i);
            if (met == 0) {
                if (noSign(sheets.cells[k][f + 2 * i]) || outside(sheets.cells[k][f + 2 * i + 1], 0, MOST_BITS)) {
                    return -20 - i;
                }
                whole++;
            }
        }
        for (int i = 0; i < whole; i++) {
            set(sheets.cells[k][f + 2 * i], sheets.cells[k][f + 2 * i + 1]);
        }
        torn = met;
        return whole;
    }

    public int torn() {
        return torn;
    }

    public int count(int what) {
        switch (what) {
            case 0: return now.seen;
            case 1: return (kept[0] ? 1 : 0) + (kept[1] ? 1 : 0);
            case 2: return tape.length;
            case 3: return sheets.laneOf[0] == NONE ? NONE : sheets.sizeOf[0];
            case 4: return now.limitsSummed();
            case 5: return now.signsSummed();
            default: return BAD;
        }
    }

    private boolean noDog(int d) {
        return outside(d, 0, now.dogs - 1);
    }

    private boolean noSign(int i) {
        return outside(i, 0, now.signs - 1);
    }

    private static boolean noSheet(int k) {
        return outside(k, 0, MOST_SHEETS - 1);
    }

    private static boolean noLane(int lane) {
        return outside(lane, 0, 2);
    }

    private static boolean outside(int v, int least, int greatest) {
        return v < least || v > greatest;
    }

    /** All that an IMAGE holds; the rows are made once and copied into, so that calls make nothing. */
    private static final class Pack {
        final int[] kindOf = new int[MOST_DOGS];
        final int[] limitOf = new int[MOST_DOGS];
        final int[] countOf = new int[MOST_DOGS];
        final int[] barksOf = new int[MOST_DOGS];
        final int[] signAt = new int[MOST_SIGNS];
        final int[] jamFrom = new int[MOST_JAMS];
        final int[] jamFor = new int[MOST_JAMS];
        final int[] seenTick = new int[MOST_SEEN];
        final int[] seenReset = new int[MOST_SEEN];
        int dogs;
        int signs;
        int jams;
        int seen;
        int place;
        int tick;
        int resets;
        int free;
        int last = NONE;

        void copyOf(Pack from) {
            System.arraycopy(from.kindOf, 0, kindOf, 0, MOST_DOGS);
            System.arraycopy(from.limitOf, 0, limitOf, 0, MOST_DOGS);
            System.arraycopy(from.countOf, 0, countOf, 0, MOST_DOGS);
            System.arraycopy(from.barksOf, 0, barksOf, 0, MOST_DOGS);
            System.arraycopy(from.signAt, 0, signAt, 0, MOST_SIGNS);
            System.arraycopy(from.jamFrom, 0, jamFrom, 0, MOST_JAMS);
            System.arraycopy(from.jamFor, 0, jamFor, 0, MOST_JAMS);
            System.arraycopy(from.seenTick, 0, seenTick, 0, MOST_SEEN);
            System.arraycopy(from.seenReset, 0, seenReset, 0, MOST_SEEN);
            dogs = from.dogs;
            signs = from.signs;
            jams = from.jams;
            seen = from.seen;
            place = from.place;
            tick = from.tick;
            resets = from.resets;
            free = from.free;
            last = from.last;
        }

        /** For a draft, that runs no TICKS and sees nothing: all else of it is as at first. */
        void empty() {
            dogs = 0;
            signs = 0;
            jams = 0;
        }

        void addDog(int kind, int limit) {
            if (dogs < MOST_DOGS) {
                kindOf[dogs] = kind;
                limitOf[dogs] = limit;
                dogs++;
            }
        }

        void addSign(int bits) {
            if (signs < MOST_SIGNS) {
                signAt[signs] = bits;
                signs++;
            }
        }

        void addJam(int from, int length) {
            if (jams < MOST_JAMS) {
                jamFrom[jams] = from;
                jamFor[jams] = length;
                jams++;
            }
        }

        void addSeen(int at, int reset) {
            if (seen < MOST_SEEN) {
                seenTick[seen] = at;
                seenReset[seen] = reset;
                seen++;
            }
        }

        boolean isStuck() {
            for (int i = 0; i < jams; i++) {
                if (tick >= jamFrom[i] && jamFrom[i] >= free && tick - jamFrom[i] < jamFor[i]) {
                    return true;
                }
            }
            return false;
        }

        /** The SIGN that is done in this TICK, PLACE going on; none feeds nobody, as a SIGN of 0 does. */
        int nextSign() {
            if (place >= signs || isStuck()) {
                return 0;
            }
            int bits = signAt[place];
            place = place + 1 < signs ? place + 1 : 0;
            return bits;
        }

        /** A DOG is FED: whether it BITES. */
        boolean bitesFed(int d) {
            switch (kindOf[d]) {
                case WINDOW:
                    if (countOf[d] < limitOf[d] / 2) {
                        return true;
                    }
                    countOf[d] = 0;
                    return false;
                case TWICE:
                    countOf[d] = 0;
                    barksOf[d] = 0;
                    return false;
                case HALF:
                    countOf[d] = countOf[d] / 2;
                    barksOf[d] = 0;
                    return false;
                default:
                    countOf[d] = 0;
                    return false;
            }
        }

        /** A DOG is not FED in a TICK: whether it BITES. */
        boolean bitesUnfed(int d) {
            countOf[d]++;
            if (countOf[d] <= limitOf[d]) {
                return false;
            }
            if (kindOf[d] == PLAIN || kindOf[d] == WINDOW) {
                return true;
            }
            barksOf[d]++;
            countOf[d] = 0;
            return barksOf[d] >= 2;
        }

        /** A RESET. */
        void beginAnew(int biter, int freeFrom) {
            resets = Math.min(resets + 1, MOST_RESETS);
            last = biter;
            place = 0;
            free = freeFrom;
            Arrays.fill(countOf, 0);
            Arrays.fill(barksOf, 0);
        }

        boolean isAsSeen(long resetBits) {
            for (int i = 0; i < seen; i++) {
                if ((resetBits >> seenTick[i] & 1) != seenReset[i]) {
                    return false;
                }
            }
            return true;
        }

        int countsSummed() {
            int sum = 0;
            for (int d = 0; d < dogs; d++) {
                sum += countOf[d];
            }
            return sum;
        }

        int limitsSummed() {
            int sum = 0;
            for (int d = 0; d < dogs; d++) {
                sum += limitOf[d];
            }
            return sum;
        }

        int signsSummed() {
            int sum = 0;
            for (int i = 0; i < signs; i++) {
                sum += signAt[i];
            }
            return sum;
        }
    }

    /** TICKS run on a copy, with what is counted on the way. */
    private static final class Trial {
        final Pack pack = new Pack();
        final int[] bitesOf = new int[MOST_DOGS];
        final int[] resetsByLimit = new int[LAST_SEEN_TICK + 1];
        int resets;
        int stuckTicks;
        int barks;
        int meals;
        int sleeper;

        void begin(Pack from) {
            pack.copyOf(from);
            Arrays.fill(bitesOf, 0);
            resets = 0;
            stuckTicks = 0;
            barks = 0;
            meals = 0;
            sleeper = NONE;
        }

        /** A TICK in which the DOGS of these bits are FED: whether there is a RESET. */
        boolean step(int bits) {
            if (pack.isStuck()) {
                stuckTicks++;
            }
            int biter = NONE;
            // No DOG's COUNT touches another's ahead of the RESET, so one round does for FED and not FED.
            for (int d = 0; d < pack.dogs; d++) {
                if (d != sleeper && bitesIn(d, (bits >> d & 1) == 1)) {
                    bitesOf[d]++;
                    biter = biter == NONE ? d : biter;
                }
            }
            if (biter != NONE) {
                resets++;
                pack.beginAnew(biter, pack.tick + 1);
            }
            pack.tick++;
            return biter != NONE;
        }

        private boolean bitesIn(int d, boolean isFed) {
            if (isFed) {
                meals++;
                return pack.bitesFed(d);
            }
            int before = pack.barksOf[d];
            boolean bites = pack.bitesUnfed(d);
            barks += pack.barksOf[d] - before;
            return bites;
        }

        void walk(int n) {
            for (int t = 0; t < n; t++) {
                step(pack.nextSign());
            }
        }

        /** RESETS in n TICKS; it stops at the bound, as beyond it they are not fewer anyway. */
        int resetsBelow(int bound, int n) {
            for (int t = 0; t < n && resets < bound; t++) {
                step(pack.nextSign());
            }
            return resets;
        }

        /** A bit for each TICK (0 to 40) in which there is a RESET. */
        long resetBits() {
            long bits = 0;
            for (int t = 0; t <= LAST_SEEN_TICK; t++) {
                if (step(pack.nextSign())) {
                    bits |= 1L << t;
                }
            }
            return bits;
        }

        /** How many LIMITS of a DOG are as SEEN; resetsByLimit tells for each TICK by how many there is a RESET. */
        int gatherLimits(Pack from, int d) {
            int all = 0;
            Arrays.fill(resetsByLimit, 0);
            for (int limit = 1; limit <= MOST_LIMIT; limit++) {
                begin(from);
                pack.limitOf[d] = limit;
                long bits = resetBits();
                if (from.isAsSeen(bits)) {
                    all++;
                    for (int t = 0; t <= LAST_SEEN_TICK; t++) {
                        resetsByLimit[t] += (int) (bits >> t & 1);
                    }
                }
            }
            return all;
        }
    }

    /** THE TAPE and how it is read: the first FAULT stays, and nothing is taken behind it. */
    private static final class Tape {
        private static final int END = 0, NAME = 1, NUMBER = 2, SEMICOLON = 3;
        private static final int NO_TOKEN = 1, MISPLACED = 2, OUT_OF_BOUNDS = 3, SIGNS_AGAIN = 4, TOO_MANY = 5;

        final byte[] bytes = new byte[TAPE_BYTES];
        final Pack draft = new Pack();
        int length;
        int fault;
        int faultAt;
        int lines;
        private int next;
        private int token;
        private int tokenAt;
        private int value;

        void begin() {
            draft.empty();
            fault = 0;
            lines = 0;
            next = 0;
            readToken();
        }

        boolean hasLine() {
            return fault == 0 && token != END;
        }

        /** A line goes into the draft, which tells all once the end is met without a FAULT. */
        void readLine() {
            if (isName("plain")) {
                readDog(PLAIN);
            } else if (isName("window")) {
                readDog(WINDOW);
            } else if (isName("twice")) {
                readDog(TWICE);
            } else if (isName("half")) {
                readDog(HALF);
            } else if (isName("signs")) {
                readSigns();
            } else if (isName("jam")) {
                readJam();
            } else {
                refuse(MISPLACED);
            }
            takeSemicolon();
            lines++;
        }

        private void readDog(int kind) {
            if (draft.dogs >= MOST_DOGS) {
                refuse(TOO_MANY);
            }
            readToken();
            draft.addDog(kind, takeNumber(1, MOST_LIMIT));
        }

        private void readSigns() {
            // A line of signs tells one at least, so there are some if there was such a line.
            if (draft.signs > 0) {
                refuse(SIGNS_AGAIN);
            }
            readToken();
            draft.addSign(takeNumber(0, MOST_BITS));
            for (int i = 1; i <= MOST_SIGNS && fault == 0 && token == NUMBER; i++) {
                // Asked ahead of its bounds: a 17th is too many, whether it is a SIGN or not.
                if (i == MOST_SIGNS) {
                    refuse(TOO_MANY);
                }
                draft.addSign(takeNumber(0, MOST_BITS));
            }
        }

        private void readJam() {
            if (draft.jams >= MOST_JAMS) {
                refuse(TOO_MANY);
            }
            readToken();
            int from = takeNumber(0, LAST_JAM_TICK);
            draft.addJam(from, takeNumber(1, LONGEST_JAM));
        }

        private int takeNumber(int least, int greatest) {
            if (token != NUMBER) {
                refuse(MISPLACED);
            } else if (outside(value, least, greatest)) {
                refuse(OUT_OF_BOUNDS);
            }
            int taken = value;
            readToken();
            return taken;
        }

        private void takeSemicolon() {
            if (token != SEMICOLON) {
                refuse(MISPLACED);
            }
            readToken();
        }

        private void refuse(int found) {
            if (fault == 0) {
                fault = found;
                faultAt = tokenAt;
            }
        }

        private void readToken() {
            if (fault != 0) {
                return;
            }
            while (next < length && bytes[next] == ' ') {
                next++;
            }
            tokenAt = next;
            if (next >= length) {
                token = END;
            } else if (bytes[next] == ';') {
                token = SEMICOLON;
                next++;
            } else if (isLetter(bytes[next])) {
                readName();
            } else if (isFigure(bytes[next])) {
                readNumber();
            } else {
                refuse(NO_TOKEN);
            }
        }

        private void readName() {
            token = NAME;
            while (next < length && isLetter(bytes[next])) {
                next++;
            }
        }

        private void readNumber() {
            token = NUMBER;
            value = 0;
            while (next < length && isFigure(bytes[next])) {
                value = value * 10 + bytes[next] - '0';
                next++;
            }
            if (next - tokenAt > 2) {
                refuse(NO_TOKEN);
            }
        }

        private boolean isName(String word) {
            if (token != NAME || next - tokenAt != word.length()) {
                return false;
            }
            for (int i = 0; i < word.length(); i++) {
                if (bytes[tokenAt + i] != word.charAt(i)) {
                    return false;
                }
            }
            return true;
        }

        private static boolean isLetter(byte b) {
            return b >= 'a' && b <= 'z';
        }

        private static boolean isFigure(byte b) {
            return b >= '0' && b <= '9';
        }
    }

    /** SHEETS: each has room for all CELLS from the first, so that a new row makes nothing. */
    private static final class Sheets {
        final int[][] cells = new int[MOST_SHEETS][MOST_CELLS];
        final int[] laneOf = new int[MOST_SHEETS];
        final int[] sizeOf = new int[MOST_SHEETS];

        Sheets() {
            Arrays.fill(laneOf, NONE);
        }

        void renew(int k, int lane, int n) {
            Arrays.fill(cells[k], 0);
            laneOf[k] = lane;
            sizeOf[k] = n;
        }

        void write(int k, int i, int v) {
            switch (laneOf[k]) {
                case 0:
                    cells[k][i] = (byte) v;
                    break;
                case 1:
                    cells[k][i] = (short) v;
                    break;
                default:
                    cells[k][i] = v;
            }
        }

        /** The FAULT that the machine would find at a CELL of a SHEET taken as of a lane; 0. */
        int faultOf(int k, int lane, int i) {
            if (laneOf[k] == NONE) {
                return NULL_FAULT;
            }
            if (laneOf[k] != lane) {
                return CAST_FAULT;
            }
            return outside(i, 0, sizeOf[k] - 1) ? INDEX_FAULT : 0;
        }

        int faultOfPair(int k, int lane, int i) {
            int first = faultOf(k, lane, i);
            return first != 0 ? first : faultOf(k, lane, i + 1);
        }
    }
}
