/** The boundary cases of promises 10 to 16: what is changed. */
public final class ChangeBoundsTest {
    private static final int BAD = -1, FULL = -3, NONE = -4;
    private static final Twin.Made RICH = Twin::rich;
    private static final Twin.Made NEW = x -> { };

    public static void main(String[] args) {
        alter();
        alterKeepsCounts();
        set();
        add();
        cut();
        cutPlace();
        stick();
        clear();
        boneBounds();
        boneOfWindows();
        boneOfOthers();
        boneBites();
        boneBeyond999();
        Check.finish();
    }

    private static void due(String call, long got, long want) {
        Check.due(call, got, want);
    }

    private static Twin.Made told(String text) {
        return x -> Check.tell(x, text);
    }

    // ---- promise 10

    private static void alter() {
        for (int dogs = 1; dogs <= 4; dogs++) {
            Twin.Made made = told("half 3;".repeat(dogs));
            Twin.bounds("10: alter of " + dogs + ", KIND", made, (x, d) -> x.alter(d, 0, 1), 0, dogs - 1);
            Twin.bounds("10: alter of " + dogs + ", LIMIT", made, (x, d) -> x.alter(d, 1, 1), 0, dogs - 1);
        }
        Twin.refusedWith("10: alter of none, KIND", NEW, (x, d) -> x.alter(d, 0, 1), -1, 0);
        Twin.refusedWith("10: alter of none, LIMIT", NEW, (x, d) -> x.alter(d, 1, 1), -1, 0);
        Twin.bounds("10: alter(1, what, 1)", RICH, (x, what) -> x.alter(1, what, 1), 0, 1);
        for (int d = 0; d < 4; d++) {
            int dog = d;
            Twin.bounds("10: KIND of " + d, RICH, (x, v) -> x.alter(dog, 0, v), 0, 3);
            Twin.bounds("10: LIMIT of " + d, RICH, (x, v) -> x.alter(dog, 1, v), 1, 20);
        }
        for (int v = 0; v <= 3; v++) {
            WatchDogs x = Twin.of(RICH);
            due("10: KIND was", x.alter(0, 0, v), 3);
            due("10: KIND is", x.dog(0, 0), v);
            due("10: KIND was " + v, x.alter(0, 0, 0), v);
        }
        for (int v : new int[] {1, 2, 19, 20}) {
            WatchDogs x = Twin.of(RICH);
            due("10: LIMIT was", x.alter(3, 1, v), 9);
            due("10: LIMIT is", x.dog(3, 1), v);
            due("10: LIMIT was " + v, x.alter(3, 1, 9), v);
        }
        Twin.unchanged("10: KIND as it was", RICH, x -> x.alter(0, 0, 3));
        Twin.unchanged("10: LIMIT as it was", RICH, x -> x.alter(0, 1, 7));
    }

    private static void alterKeepsCounts() {
        for (int v = 0; v <= 3; v++) {
            WatchDogs x = Twin.of(RICH);
            x.alter(1, 0, v);
            due("10: COUNT stays by KIND " + v, x.dog(1, 2), 1);
            due("10: BARKS stay by KIND " + v, x.dog(1, 3), 1);
        }
        WatchDogs x = Twin.of(RICH);
        x.alter(0, 1, 1);
        due("10: COUNT stays above LIMIT", x.dog(0, 2), 3);
        due("10: others stay", x.dog(1, 1), 2);
        // A COUNT that is at LIMIT already: not LATE before the next TICK, then LATE.
        WatchDogs y = Check.told("plain 9;");
        y.ticks(4);
        y.alter(0, 1, 4);
        due("10: COUNT 4 of 4 is late in the next TICK", y.when(), 0);
        y.alter(0, 1, 5);
        due("10: COUNT 4 of 5 is not", y.when(), 1);
    }

    // ---- promise 11

    private static void set() {
        Twin.refusedWith("11: set of none", NEW, (x, i) -> x.set(i, 1), -1, 0);
        Twin.bounds("11: set of one", told("signs 3;"), (x, i) -> x.set(i, 1), 0, 0);
        Twin.bounds("11: set of five", RICH, (x, i) -> x.set(i, 1), 0, 4);
        Twin.bounds("11: set of sixteen", told("signs 0 0 0 0 0 0 0 0 0 0 0 0 0 0 0 0;"), (x, i) -> x.set(i, 1), 0, 15);
        Twin.bounds("11: set(0, v)", RICH, (x, v) -> x.set(0, v), 0, 15);
        Twin.bounds("11: set(4, v)", RICH, (x, v) -> x.set(4, v), 0, 15);
        WatchDogs x = Twin.of(RICH);
        due("11: set(4, 15)", x.set(4, 15), 7);
        due("11: set(4, 0)", x.set(4, 0), 15);
        due("11: set(4, 7)", x.set(4, 7), 0);
        due("11: others stay", x.sign(3), 0);
        due("11: PLACE stays", x.rule(5), 2);
    }

    // ---- promise 12

    private static void add() {
        Twin.bounds("12: add to none", NEW, WatchDogs::add, 0, 15);
        Twin.bounds("12: add to five", RICH, WatchDogs::add, 0, 15);
        WatchDogs x = new WatchDogs();
        for (int n = 1; n <= 16; n++) {
            due("12: add, the " + n + ". SIGN", x.add(n - 1), n);
            due("12: behind all others", x.sign(n - 1), n - 1);
        }
        Twin.Made fifteen = told("plain 2;signs 0 0 0 0 0 0 0 0 0 0 0 0 0 0 0;");
        Twin.Made sixteen = told("plain 2;signs 0 0 0 0 0 0 0 0 0 0 0 0 0 0 0 9;");
        due("12: the 16th", Twin.of(fifteen).add(9), 16);
        Twin.bounds("12: the 16th", fifteen, WatchDogs::add, 0, 15);
        Twin.refused("12: FULL: the 17th", sixteen, y -> y.add(0), FULL);
        Twin.refused("12: FULL: the 17th", sixteen, y -> y.add(15), FULL);
        Twin.refusedWith("12: BAD ahead of FULL", sixteen, WatchDogs::add, -1, 16);
        WatchDogs y = Twin.of(sixteen);
        y.cut(15);
        due("12: room for one again", y.add(4), 16);
        due("12: and for no other", y.add(4), FULL);
        due("12: sign(15)", y.sign(15), 4);
        WatchDogs z = Twin.of(RICH);
        z.add(1);
        due("12: PLACE stays", z.rule(5), 2);
    }

    // ---- promise 13

    private static void cut() {
        Twin.bounds("13: cut of none", NEW, WatchDogs::cut, 0, 0);
        Twin.bounds("13: cut of one", told("signs 3;"), WatchDogs::cut, 0, 1);
        Twin.bounds("13: cut of five", RICH, WatchDogs::cut, 0, 5);
        Twin.bounds("13: cut of sixteen", told("signs 0 0 0 0 0 0 0 0 0 0 0 0 0 0 0 9;"), WatchDogs::cut, 0, 16);
        Twin.unchanged("13: cut(5) of five", RICH, x -> x.cut(5));
        Twin.unchanged("13: cut(0) of none", NEW, x -> x.cut(0));
        WatchDogs x = Twin.of(RICH);
        due("13: cut(4)", x.cut(4), 5);
        due("13: sign(4)", x.sign(4), BAD);
        due("13: sign(3)", x.sign(3), 0);
        due("13: SIGNS", x.rule(1), 4);
        due("13: cut(5) then", x.cut(5), BAD);
        due("13: cut(0)", x.cut(0), 4);
        due("13: cut(0) again", x.cut(0), 0);
        due("13: sum of none", x.count(5), 0);
        due("13: what is gone does not come back", x.add(3) * 100 + x.sign(0), 103);
        due("13: nor what was behind it", x.sign(1), BAD);
    }

    /** PLACE is 2: it stays while there is a SIGN 2. */
    private static void cutPlace() {
        int[] want = {0, 0, 0, 2, 2, 2};
        for (int n = 0; n <= 5; n++) {
            WatchDogs x = Twin.of(RICH);
            x.cut(n);
            due("13: PLACE behind cut(" + n + ")", x.rule(5), want[n]);
        }
        // At the last SIGN, and at 0.
        WatchDogs y = Check.told("plain 20;signs 0 1 0;");
        y.ticks(2);
        y.cut(3);
        due("13: PLACE 2 of three", y.rule(5), 2);
        y.cut(2);
        due("13: PLACE 2 of two", y.rule(5), 0);
        y.cut(1);
        due("13: PLACE 0 of one", y.rule(5), 0);
        y.cut(0);
        due("13: PLACE 0 of none", y.rule(5), 0);
        y.ticks(3);
        due("13: no SIGNS, PLACE stays 0", y.rule(5), 0);
        due("13: no SIGNS, nobody is FED", y.dog(0, 2), 3);
        y.add(1);
        y.ticks(1);
        due("13: a SIGN that comes then is done", y.dog(0, 2), 0);
        // A SIGN that is gone feeds nobody, though it was at PLACE.
        WatchDogs z = Check.told("plain 20;signs 1;");
        z.cut(0);
        z.ticks(3);
        due("13: no SIGNS, nobody is FED", z.dog(0, 2), 3);
        due("18: no SIGNS, nobody is FED", z.runs(200, 3), 0);
    }

    // ---- promise 14

    private static void stick() {
        Twin.bounds("14: stick(t, 1)", NEW, (x, t) -> x.stick(t, 1), 0, 99);
        Twin.bounds("14: stick(0, n)", NEW, (x, n) -> x.stick(0, n), 1, 40);
        Twin.bounds("14: stick(t, 40)", RICH, (x, t) -> x.stick(t, 40), 0, 99);
        Twin.bounds("14: stick(99, n)", RICH, (x, n) -> x.stick(99, n), 1, 40);
        WatchDogs x = new WatchDogs();
        int[][] jams = {{0, 1}, {99, 40}, {1, 39}, {98, 2}};
        for (int i = 0; i < 4; i++) {
            due("14: stick, JAM " + i, x.stick(jams[i][0], jams[i][1]), i + 1);
        }
        for (int i = 0; i < 4; i++) {
            due("14: its TICK, JAM " + i, x.jam(i, 0), jams[i][0]);
            due("14: for how many, JAM " + i, x.jam(i, 1), jams[i][1]);
        }
        Twin.Made three = told("plain 9;jam 1 1;jam 2 2;jam 3 3;");
        Twin.Made four = told("plain 9;jam 1 1;jam 2 2;jam 3 3;jam 4 4;");
        due("14: the 4th", Twin.of(three).stick(5, 5), 4);
        Twin.refused("14: FULL: the 5th", four, y -> y.stick(0, 1), FULL);
        Twin.refused("14: FULL: the 5th", four, y -> y.stick(99, 40), FULL);
        Twin.refusedWith("14: BAD ahead of FULL, its TICK", four, (y, t) -> y.stick(t, 1), -1, 100);
        Twin.refusedWith("14: BAD ahead of FULL, for how many", four, (y, n) -> y.stick(0, n), 0, 41);
        WatchDogs z = Twin.of(four);
        z.clear(3);
        due("14: room for one again", z.stick(7, 8), 4);
        due("14: and for no other", z.stick(7, 8), FULL);
        due("14: jam(3, 1)", z.jam(3, 1), 8);
    }

    // ---- promise 15

    private static void clear() {
        Twin.bounds("15: clear of none", NEW, WatchDogs::clear, 0, 0);
        Twin.bounds("15: clear of two", RICH, WatchDogs::clear, 0, 2);
        Twin.bounds("15: clear of four", told("jam 1 1;jam 2 2;jam 3 3;jam 4 4;"), WatchDogs::clear, 0, 4);
        Twin.unchanged("15: clear(2) of two", RICH, x -> x.clear(2));
        WatchDogs x = Twin.of(RICH);
        due("15: STUCK", x.rule(6), 1);
        due("15: clear(1)", x.clear(1), 2);
        due("15: the first stays", x.jam(0, 0), 5);
        due("15: jam(1, 0)", x.jam(1, 0), BAD);
        due("15: STUCK still", x.rule(6), 1);
        due("15: clear(2) then", x.clear(2), BAD);
        due("15: clear(0)", x.clear(0), 1);
        due("15: not STUCK", x.rule(6), 0);
        due("15: clear(0) again", x.clear(0), 0);
        due("15: what is gone does not come back", x.stick(30, 2) * 100 + x.jam(0, 0), 130);
        due("15: nor what was behind it", x.jam(1, 0), BAD);
    }

    // ---- promise 16

    private static void boneBounds() {
        for (int dogs = 1; dogs <= 4; dogs++) {
            Twin.bounds("16: bone of " + dogs, told("half 3;".repeat(dogs)), WatchDogs::bone, 0, dogs - 1);
        }
        Twin.bounds("16: bone", RICH, WatchDogs::bone, 0, 3);
        Twin.refusedWith("16: bone of none", NEW, WatchDogs::bone, -1, 0);
    }

    /** A window BITES below half of LIMIT (down): each LIMIT at, one below and one above its half. */
    private static void boneOfWindows() {
        for (int limit = 1; limit <= 20; limit++) {
            for (int count = 0; count <= limit; count++) {
                WatchDogs x = Check.told("window " + limit + ";");
                x.ticks(count);
                due("16: window, LIMIT " + limit + ", COUNT " + count, x.bone(0), 2 * count + 1 < limit ? 1 : 0);
                due("16: COUNT is 0 then", x.dog(0, 2), 0);
            }
        }
        WatchDogs x = Check.told("window 1;");
        due("16: half of 1 is 0, COUNT 0 is not below it", x.bone(0), 0);
        x.alter(0, 1, 2);
        due("16: half of 2 is 1, COUNT 0 is below it", x.bone(0), 1);
        x.alter(0, 1, 3);
        due("16: half of 3 is 1, COUNT 0 is below it", x.bone(0), 1);
        x.ticks(1);
        due("16: COUNT 1 is not below it", x.bone(0), 0);
    }

    private static void boneOfOthers() {
        for (int count = 0; count <= 20; count++) {
            WatchDogs x = Check.told("plain 20;twice 20;half 20;");
            x.ticks(count);
            due("16: plain", x.bone(0), 0);
            due("16: plain, COUNT " + count, x.dog(0, 2), 0);
            due("16: twice", x.bone(1), 0);
            due("16: twice, COUNT " + count, x.dog(1, 2), 0);
            due("16: half", x.bone(2), 0);
            due("16: half, COUNT " + count, x.dog(2, 2), count / 2);
            due("16: no RESET", x.rule(4), 0);
            due("16: FREE stays", x.rule(8), 0);
            due("16: LAST stays", x.rule(7), NONE);
        }
        for (String kind : new String[] {"twice", "half"}) {
            WatchDogs x = Check.told(kind + " 3;");
            x.ticks(3);
            due("16: no bark at LIMIT", x.dog(0, 3), 0);
            x.ticks(1);
            due("16: a bark above it", x.dog(0, 3), 1);
            due("16: " + kind, x.bone(0), 0);
            due("16: BARKS is 0", x.dog(0, 3), 0);
        }
        // BARKS of a plain one and of a window are no matter of feeding.
        WatchDogs x = Twin.of(RICH);
        x.alter(1, 0, 0);
        x.bone(1);
        due("16: plain, COUNT is 0", x.dog(1, 2), 0);
        due("16: plain, BARKS stay", x.dog(1, 3), 1);
        x.alter(1, 0, 1);
        x.alter(1, 1, 1);
        due("16: window at half of 1", x.bone(1), 0);
        due("16: window, BARKS stay", x.dog(1, 3), 1);
    }

    private static void boneBites() {
        WatchDogs x = Twin.of(RICH);
        x.alter(3, 1, 10);
        due("16: COUNT 4 is below half of 10", x.bone(3), 1);
        int[] want = {4, 5, 2, 7, 2, 0, 0, 3, 7};
        for (int what = 0; what <= 8; what++) {
            due("16: rule(" + what + ") behind a RESET by hand", x.rule(what), want[what]);
        }
        for (int d = 0; d < 4; d++) {
            due("16: COUNT of " + d, x.dog(d, 2), 0);
            due("16: BARKS of " + d, x.dog(d, 3), 0);
        }
        due("16: SEEN stays", x.count(0), 3);
        due("16: IMAGES stay", x.count(1), 1);
        // FREE is TICK: a JAM from one TICK ahead is over, one from this TICK is not, nor one from the next.
        for (int from = 6; from <= 8; from++) {
            WatchDogs y = Twin.of(RICH);
            y.clear(0);
            y.stick(from, 5);
            due("16: STUCK ahead of it", y.rule(6), from <= 7 ? 1 : 0);
            y.alter(3, 1, 10);
            y.bone(3);
            due("16: STUCK from " + from, y.rule(6), from == 7 ? 1 : 0);
            due("16: STUCK a TICK later", y.ticks(1) * 0 + y.rule(6), from >= 7 ? 1 : 0);
        }
        WatchDogs z = Check.told("plain 9;window 9;");
        z.bone(1);
        due("16: LAST is who bites, not the first DOG", z.rule(7), 1);
        due("16: FREE in TICK 0", z.rule(8), 0);
    }

    private static void boneBeyond999() {
        WatchDogs x = Check.told("window 2;signs 1;");
        for (int i = 0; i < 9; i++) {
            due("16: ticks(100)", x.ticks(100), 100);
        }
        x.ticks(97);
        due("16: RESETS 997", x.rule(4), 997);
        for (int want : new int[] {998, 999, 999, 999}) {
            due("16: bone(0) bites", x.bone(0), 1);
            due("16: RESETS are 999 at most", x.rule(4), want);
        }
    }
}
