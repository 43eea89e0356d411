import java.math.BigInteger;
import java.util.ArrayList;
import java.util.List;

/**
 * A second writing of the document for comparison: whole states are copied, odds are summed by a tree of big
 * numbers, and the FAULTS of SHEETS are those that the machine itself throws.
 */
final class Model {
    private static final class Dog {
        int kind;
        int limit;
        int count;
        int barks;

        Dog(int kind, int limit) {
            this.kind = kind;
            this.limit = limit;
        }

        Dog copy() {
            Dog c = new Dog(kind, limit);
            c.count = count;
            c.barks = barks;
            return c;
        }
    }

    private static final class World {
        List<Dog> dogs = new ArrayList<>();
        List<Integer> signs = new ArrayList<>();
        List<int[]> jams = new ArrayList<>();
        List<int[]> seen = new ArrayList<>();
        int place;
        int tick;
        int resets;
        int free;
        Integer last;

        // Told by the latest TICK.
        List<Integer> biters = new ArrayList<>();
        int barked;
        int fed;

        World copy() {
            World w = new World();
            for (Dog d : dogs) {
                w.dogs.add(d.copy());
            }
            w.signs.addAll(signs);
            w.jams.addAll(jams);
            w.seen.addAll(seen);
            w.place = place;
            w.tick = tick;
            w.resets = resets;
            w.free = free;
            w.last = last;
            return w;
        }

        boolean stuck() {
            boolean is = false;
            for (int[] j : jams) {
                boolean begun = !(tick < j[0]);
                boolean counts = !(j[0] < free);
                is |= begun && counts && tick < j[0] + j[1];
            }
            return is;
        }

        boolean feedOne(Dog d) {
            if (d.kind == 1 && d.count < Math.floorDiv(d.limit, 2)) {
                return true;
            }
            d.count = d.kind == 3 ? Math.floorDiv(d.count, 2) : 0;
            if (d.kind >= 2) {
                d.barks = 0;
            }
            return false;
        }

        boolean late(Dog d) {
            if (d.kind < 2) {
                return true;
            }
            d.barks++;
            barked++;
            d.count = 0;
            return d.barks == 2;
        }

        void reset(int by, int freeFrom) {
            if (resets < 999) {
                resets++;
            }
            last = by;
            place = 0;
            for (Dog d : dogs) {
                d.count = 0;
                d.barks = 0;
            }
            free = freeFrom;
        }

        /** A TICK; a seeded one has its own SIGN, a lost one none, a sleeper is left alone. */
        boolean tick(Integer seeded, boolean lost, int sleeper) {
            biters.clear();
            barked = 0;
            fed = 0;
            boolean[] ate = new boolean[dogs.size()];
            int sign = 0;
            if (!stuck()) {
                if (seeded != null) {
                    sign = seeded;
                } else if (!signs.isEmpty()) {
                    sign = signs.get(place);
                    place = (place + 1) % signs.size();
                }
            }
            if (lost) {
                sign = 0;
            }
            for (int d = 0; d < dogs.size(); d++) {
                if ((sign & (1 << d)) != 0 && d != sleeper) {
                    ate[d] = true;
                    fed++;
                    if (feedOne(dogs.get(d))) {
                        biters.add(d);
                    }
                }
            }
            for (int d = 0; d < dogs.size(); d++) {
                if (!ate[d] && d != sleeper) {
                    dogs.get(d).count++;
                    if (dogs.get(d).count > dogs.get(d).limit && late(dogs.get(d))) {
                        biters.add(d);
                    }
                }
            }
            boolean bitten = !biters.isEmpty();
            if (bitten) {
                int first = 99;
                for (int b : biters) {
                    first = Math.min(first, b);
                }
                reset(first, tick + 1);
            }
            tick++;
            return bitten;
        }

        boolean tick() {
            return tick(null, false, -1);
        }

        int resetsIn(int n) {
            World w = copy();
            int sum = 0;
            for (int i = 0; i < n; i++) {
                sum += w.tick() ? 1 : 0;
            }
            return sum;
        }

        int bitesIn(int d, int n) {
            World w = copy();
            int sum = 0;
            for (int i = 0; i < n; i++) {
                w.tick();
                sum += w.biters.contains(d) ? 1 : 0;
            }
            return sum;
        }

        boolean resetAt(int n) {
            World w = copy();
            for (int i = 0; i < n; i++) {
                w.tick();
            }
            return w.tick();
        }

        boolean asSeen() {
            for (int[] s : seen) {
                if (resetAt(s[0]) != (s[1] == 1)) {
                    return false;
                }
            }
            return true;
        }
    }

    private static final class Fault extends Exception {
        private static final long serialVersionUID = 1L;
        final int number;
        final int place;

        Fault(int number, int place) {
            this.number = number;
            this.place = place;
        }
    }

    private World w = new World();
    private final World[] images = new World[2];
    private final Object[] sheets = new Object[4];
    private final StringBuilder tape = new StringBuilder();
    private int fault;
    private int torn;

    private static boolean in(int v, int a, int b) {
        return a <= v && v <= b;
    }

    private boolean isDog(int d) {
        return in(d, 0, w.dogs.size() - 1);
    }

    int feed(int c) {
        if (!in(c, 0, 127)) {
            return -1;
        }
        if (tape.length() == 160) {
            return -3;
        }
        tape.append((char) c);
        return tape.length();
    }

    int end(int n) {
        if (!in(n, 0, tape.length())) {
            return -1;
        }
        int had = tape.length();
        tape.setLength(n);
        return had;
    }

    // The text: a cursor, tokens as {kind, place, number}, kind 'e' at the end.
    private String told;
    private int cursor;
    private String word;

    private int[] token() throws Fault {
        while (cursor < told.length() && told.charAt(cursor) == ' ') {
            cursor++;
        }
        int from = cursor;
        if (from == told.length()) {
            return new int[] {'e', from, 0};
        }
        String rest = told.substring(from);
        String name = rest.replaceAll("(?s)[^a-z].*", "");
        String number = rest.replaceAll("(?s)[^0-9].*", "");
        if (!name.isEmpty()) {
            cursor += name.length();
            word = name;
            return new int[] {'a', from, 0};
        }
        if (!number.isEmpty()) {
            if (number.length() > 2) {
                throw new Fault(1, from);
            }
            cursor += number.length();
            return new int[] {'0', from, Integer.parseInt(number)};
        }
        if (rest.charAt(0) == ';') {
            cursor++;
            return new int[] {';', from, 0};
        }
        throw new Fault(1, from);
    }

    private int number(int low, int high) throws Fault {
        int[] t = token();
        if (t[0] != '0') {
            throw new Fault(2, t[1]);
        }
        if (!in(t[2], low, high)) {
            throw new Fault(3, t[1]);
        }
        return t[2];
    }

    private void semicolon() throws Fault {
        int[] t = token();
        if (t[0] != ';') {
            throw new Fault(2, t[1]);
        }
    }

    private void signsLine(World draft) throws Fault {
        draft.signs.add(number(0, 15));
        while (true) {
            int[] t = token();
            if (t[0] == ';') {
                return;
            }
            if (t[0] != '0') {
                throw new Fault(2, t[1]);
            }
            if (draft.signs.size() == 16) {
                throw new Fault(5, t[1]);
            }
            if (t[2] > 15) {
                throw new Fault(3, t[1]);
            }
            draft.signs.add(t[2]);
        }
    }

    private int lines(World draft) throws Fault {
        int lines = 0;
        boolean signsTold = false;
        for (int[] t = token(); t[0] != 'e'; t = token()) {
            int kind = t[0] != 'a' ? -1 : List.of("plain", "window", "twice", "half", "signs", "jam").indexOf(word);
            if (kind < 0) {
                throw new Fault(2, t[1]);
            }
            if (kind < 4) {
                if (draft.dogs.size() == 4) {
                    throw new Fault(5, t[1]);
                }
                draft.dogs.add(new Dog(kind, number(1, 20)));
                semicolon();
            } else if (kind == 4) {
                if (signsTold) {
                    throw new Fault(4, t[1]);
                }
                signsTold = true;
                signsLine(draft);
            } else {
                if (draft.jams.size() == 4) {
                    throw new Fault(5, t[1]);
                }
                int from = number(0, 99);
                draft.jams.add(new int[] {from, number(1, 40)});
                semicolon();
            }
            lines++;
        }
        return lines;
    }

    int text() {
        told = tape.toString();
        tape.setLength(0);
        cursor = 0;
        World draft = new World();
        try {
            int lines = lines(draft);
            w = draft;
            images[0] = null;
            images[1] = null;
            fault = 0;
            return lines;
        } catch (Fault f) {
            fault = f.number;
            return -10 - f.place;
        }
    }

    int fault() {
        return fault;
    }

    int rule(int what) {
        if (!in(what, 0, 8)) {
            return -1;
        }
        return new int[] {w.dogs.size(), w.signs.size(), w.jams.size(), w.tick, w.resets, w.place,
            w.stuck() ? 1 : 0, w.last == null ? -4 : w.last, w.free}[what];
    }

    int dog(int d, int what) {
        if (!isDog(d) || !in(what, 0, 3)) {
            return -1;
        }
        Dog g = w.dogs.get(d);
        return new int[] {g.kind, g.limit, g.count, g.barks}[what];
    }

    int sign(int i) {
        return in(i, 0, w.signs.size() - 1) ? w.signs.get(i) : -1;
    }

    int jam(int i, int what) {
        return in(i, 0, w.jams.size() - 1) && in(what, 0, 1) ? w.jams.get(i)[what] : -1;
    }

    int alter(int d, int what, int v) {
        if (!isDog(d) || !in(what, 0, 1) || !in(v, what, what == 0 ? 3 : 20)) {
            return -1;
        }
        Dog g = w.dogs.get(d);
        int was = what == 0 ? g.kind : g.limit;
        if (what == 0) {
            g.kind = v;
        } else {
            g.limit = v;
        }
        return was;
    }

    int set(int i, int v) {
        if (!in(i, 0, w.signs.size() - 1) || !in(v, 0, 15)) {
            return -1;
        }
        return w.signs.set(i, v);
    }

    int add(int v) {
        if (!in(v, 0, 15)) {
            return -1;
        }
        if (w.signs.size() == 16) {
            return -3;
        }
        w.signs.add(v);
        return w.signs.size();
    }

    private static <T> int shorten(List<T> row, int n) {
        if (!in(n, 0, row.size())) {
            return -1;
        }
        int had = row.size();
        row.subList(n, had).clear();
        return had;
    }

    int cut(int n) {
        int had = shorten(w.signs, n);
        if (w.place >= w.signs.size()) {
            w.place = 0;
        }
        return had;
    }

    int stick(int t, int n) {
        if (!in(t, 0, 99) || !in(n, 1, 40)) {
            return -1;
        }
        if (w.jams.size() == 4) {
            return -3;
        }
        w.jams.add(new int[] {t, n});
        return w.jams.size();
    }

    int clear(int n) {
        return shorten(w.jams, n);
    }

    int bone(int d) {
        if (!isDog(d)) {
            return -1;
        }
        if (w.feedOne(w.dogs.get(d))) {
            w.reset(d, w.tick);
            return 1;
        }
        return 0;
    }

    int ticks(int n) {
        if (!in(n, 0, 100)) {
            return -1;
        }
        if (w.tick + n > 9999) {
            return -3;
        }
        int sum = 0;
        for (int i = 0; i < n; i++) {
            sum += w.tick() ? 1 : 0;
        }
        return sum;
    }

    int runs(int n, int what) {
        if (!in(n, 0, 200) || !in(what, 0, 3)) {
            return -1;
        }
        World c = w.copy();
        int[] sums = new int[4];
        for (int i = 0; i < n; i++) {
            sums[1] += c.stuck() ? 1 : 0;
            sums[0] += c.tick() ? 1 : 0;
            sums[2] += c.barked;
            sums[3] += c.fed;
        }
        return sums[what];
    }

    int ahead(int d, int n, int what) {
        if (!isDog(d) || !in(n, 0, 200) || !in(what, 0, 2)) {
            return -1;
        }
        World c = w.copy();
        for (int i = 0; i < n; i++) {
            c.tick();
        }
        return new int[] {c.dogs.get(d).count, c.dogs.get(d).barks, w.bitesIn(d, n)}[what];
    }

    int when() {
        World c = w.copy();
        for (int i = 0; i <= 200; i++) {
            if (c.tick()) {
                return i;
            }
        }
        return -4;
    }

    private World limited(int d, int limit) {
        World c = w.copy();
        c.dogs.get(d).limit = limit;
        return c;
    }

    int need(int d, int n) {
        if (!isDog(d) || !in(n, 0, 200)) {
            return -1;
        }
        int least = -4;
        for (int l = 20; l >= 1; l--) {
            if (limited(d, l).bitesIn(d, n) == 0) {
                least = l;
            }
        }
        return least;
    }

    int most(int d, int n) {
        if (!isDog(d) || !in(n, 0, 200)) {
            return -1;
        }
        int greatest = -4;
        for (int l = 1; l <= 20; l++) {
            if (limited(d, l).bitesIn(d, n) > 0) {
                greatest = l;
            }
        }
        return greatest;
    }

    int kind(int d, int n, int what) {
        if (!isDog(d) || !in(n, 0, 200) || !in(what, 0, 1)) {
            return -1;
        }
        int[] best = null;
        for (int k = 3; k >= 0; k--) {
            World c = w.copy();
            c.dogs.get(d).kind = k;
            int r = c.resetsIn(n);
            if (best == null || r <= best[1]) {
                best = new int[] {k, r};
            }
        }
        return best[what];
    }

    int swap(int n, int what) {
        if (!in(n, 0, 200) || !in(what, 0, 1)) {
            return -1;
        }
        int now = w.resetsIn(n);
        int[] best = {-4, -4};
        for (int code = 1515; code >= 1; code--) {
            int i = code / 100;
            int j = code % 100;
            if (i < j && j < w.signs.size()) {
                World c = w.copy();
                c.signs.set(i, w.signs.get(j));
                c.signs.set(j, w.signs.get(i));
                int r = c.resetsIn(n);
                if (r < now && (best[0] == -4 || r <= best[1])) {
                    best = new int[] {code, r};
                }
            }
        }
        return best[what];
    }

    int sleep(int n, int what) {
        if (!in(n, 0, 200) || !in(what, 0, 1)) {
            return -1;
        }
        int now = w.resetsIn(n);
        int[] best = {-4, -4};
        for (int d = w.dogs.size() - 1; d >= 0; d--) {
            World c = w.copy();
            int r = 0;
            for (int i = 0; i < n; i++) {
                r += c.tick(null, false, d) ? 1 : 0;
            }
            if (r < now && (best[0] == -4 || r <= best[1])) {
                best = new int[] {d, r};
            }
        }
        return best[what];
    }

    /** Out of 10 to the n ways: how many have no RESET (0), how many RESETS they have in all (1). */
    private static BigInteger[] ways(World from, int v, int n) {
        if (n == 0) {
            return new BigInteger[] {BigInteger.ONE, BigInteger.ZERO};
        }
        BigInteger[] sum = {BigInteger.ZERO, BigInteger.ZERO};
        for (int lost = 0; lost <= 1; lost++) {
            World c = from.copy();
            boolean reset = c.tick(null, lost == 1, -1);
            BigInteger weight = BigInteger.valueOf(lost == 1 ? v : 10 - v);
            BigInteger[] rest = ways(c, v, n - 1);
            if (!reset) {
                sum[0] = sum[0].add(weight.multiply(rest[0]));
            }
            BigInteger own = reset ? BigInteger.TEN.pow(n - 1) : BigInteger.ZERO;
            sum[1] = sum[1].add(weight.multiply(rest[1].add(own)));
        }
        return sum;
    }

    private long part(int which, int v, int n, int what) {
        if (!in(v, 0, 10) || !in(n, 0, 8) || !in(what, 0, 1)) {
            return -1;
        }
        BigInteger above = ways(w, v, n)[which];
        BigInteger below = BigInteger.TEN.pow(n);
        BigInteger common = above.gcd(below);
        return (what == 0 ? above : below).divide(common).longValueExact();
    }

    long luck(int v, int n, int what) {
        return part(0, v, n, what);
    }

    long mean(int v, int n, int what) {
        return part(1, v, n, what);
    }

    int see(int n, int v) {
        if (!in(n, 0, 40) || !in(v, 0, 1)) {
            return -1;
        }
        if (w.seen.size() == 6) {
            return -3;
        }
        w.seen.add(new int[] {n, v});
        return w.seen.size();
    }

    int forget(int n) {
        return shorten(w.seen, n);
    }

    int kinds(int d) {
        if (!isDog(d)) {
            return -1;
        }
        int bits = 0;
        for (int k = 0; k < 4; k++) {
            World c = w.copy();
            c.dogs.get(d).kind = k;
            bits += c.asSeen() ? 1 << k : 0;
        }
        return bits;
    }

    int limits(int d) {
        if (!isDog(d)) {
            return -1;
        }
        int bits = 0;
        for (int l = 1; l <= 20; l++) {
            bits += limited(d, l).asSeen() ? 1 << l : 0;
        }
        return bits;
    }

    int ask(int d, int what) {
        if (!isDog(d) || !in(what, 0, 1)) {
            return -1;
        }
        int now = Integer.bitCount(limits(d));
        int[] best = {-4, -4};
        for (int t = 0; t <= 40; t++) {
            int worst = 0;
            for (int v = 0; v <= 1; v++) {
                int left = 0;
                for (int l = 1; l <= 20; l++) {
                    World c = limited(d, l);
                    left += c.asSeen() && c.resetAt(t) == (v == 1) ? 1 : 0;
                }
                worst = Math.max(worst, left);
            }
            if (worst < now && (best[0] == -4 || worst < best[1])) {
                best = new int[] {t, worst};
            }
        }
        return best[what];
    }

    int drift(int seed, int n, int what) {
        if (!in(n, 1, 200) || !in(what, 0, 1)) {
            return -1;
        }
        if (w.dogs.isEmpty()) {
            return -2;
        }
        World c = w.copy();
        long s = seed & 0xffffffffL;
        int resets = 0;
        for (int i = 0; i < n; i++) {
            s = (s * 1103515245L + 12345L) % (1L << 32);
            long got = s / 65536 % 32768;
            resets += c.tick((int) (got % 16), false, -1) ? 1 : 0;
        }
        int sum = 0;
        for (Dog d : c.dogs) {
            sum += d.count;
        }
        return what == 0 ? resets : sum;
    }

    int keep(int k) {
        if (!in(k, 0, 1)) {
            return -1;
        }
        int had = images[k] == null ? 0 : 1;
        images[k] = w.copy();
        return had;
    }

    int back(int k) {
        if (!in(k, 0, 1)) {
            return -1;
        }
        if (images[k] == null) {
            return -2;
        }
        w = images[k].copy();
        return w.tick;
    }

    int sheet(int k, int lane, int n) {
        if (!in(k, 0, 3) || !in(lane, 0, 2) || n > 40) {
            return -1;
        }
        try {
            sheets[k] = lane == 0 ? new byte[n] : lane == 1 ? new short[n] : (Object) new int[n];
            return 1;
        } catch (NegativeArraySizeException e) {
            return -14;
        }
    }

    int lay(int k, int i, int v) {
        if (!in(k, 0, 3)) {
            return -1;
        }
        try {
            if (sheets[k] instanceof byte[]) {
                ((byte[]) sheets[k])[i] = (byte) v;
            } else if (sheets[k] instanceof short[]) {
                ((short[]) sheets[k])[i] = (short) v;
            } else {
                ((int[]) sheets[k])[i] = v;
            }
            return 1;
        } catch (NullPointerException e) {
            return -11;
        } catch (ArrayIndexOutOfBoundsException e) {
            return -12;
        }
    }

    private int cell(int k, int lane, int i) {
        return lane == 0 ? ((byte[]) sheets[k])[i] : lane == 1 ? ((short[]) sheets[k])[i] : ((int[]) sheets[k])[i];
    }

    int read(int k, int lane, int f, int n) {
        if (!in(k, 0, 3) || !in(lane, 0, 2) || !in(n, 0, 20)) {
            return -1;
        }
        List<Integer> before = new ArrayList<>(w.signs);
        int came = 0;
        int found = 0;
        try {
            while (came < n) {
                int which = cell(k, lane, f + 2 * came);
                int becomes = cell(k, lane, f + 2 * came + 1);
                if (set(which, becomes) == -1) {
                    w.signs = before;
                    return -20 - came;
                }
                came++;
            }
        } catch (NullPointerException e) {
            found = 1;
        } catch (ArrayIndexOutOfBoundsException e) {
            found = 2;
        } catch (ClassCastException e) {
            found = 3;
        }
        torn = found;
        return came;
    }

    int torn() {
        return torn;
    }

    int count(int what) {
        int sum = 0;
        switch (what) {
            case 0:
                return w.seen.size();
            case 1:
                return (images[0] == null ? 0 : 1) + (images[1] == null ? 0 : 1);
            case 2:
                return tape.length();
            case 3:
                return sheets[0] == null ? -4 : java.lang.reflect.Array.getLength(sheets[0]);
            case 4:
                for (Dog d : w.dogs) {
                    sum += d.limit;
                }
                return sum;
            case 5:
                for (int s : w.signs) {
                    sum += s;
                }
                return sum;
            default:
                return -1;
        }
    }
}
