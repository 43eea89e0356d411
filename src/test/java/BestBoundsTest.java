/** The boundary cases of promises 21 to 27: what is best, signs that are lost. */
public final class BestBoundsTest {
    private static final int NONE = -4;
    private static final Twin.Made RICH = Twin::rich;
    private static final Twin.Made NEW = x -> { };

    private interface Fraction {
        long of(WatchDogs x, int v, int n, int what);
    }

    public static void main(String[] args) {
        needMostBounds();
        needMost();
        kindBounds();
        kind();
        swapBounds();
        swap();
        swapNone();
        sleepBounds();
        sleep();
        luckMeanBounds();
        luckMean();
        luckMeanPlace();
        Check.finish();
    }

    private static void due(String call, long got, long want) {
        Check.due(call, got, want);
    }

    private static void both(String call, long first, long second, long wantFirst, long wantSecond) {
        due(call + ", what 0", first, wantFirst);
        due(call + ", what 1", second, wantSecond);
    }

    private static Twin.Made told(String text) {
        return x -> Check.tell(x, text);
    }

    // ---- promises 21, 22

    private static void needMostBounds() {
        Twin.bounds("21: need(d, 5)", RICH, (x, d) -> x.need(d, 5), 0, 3);
        Twin.bounds("22: most(d, 5)", RICH, (x, d) -> x.most(d, 5), 0, 3);
        for (int dogs = 1; dogs <= 3; dogs++) {
            Twin.bounds("21: need of " + dogs, told("half 3;".repeat(dogs)), (x, d) -> x.need(d, 5), 0, dogs - 1);
            Twin.bounds("22: most of " + dogs, told("half 3;".repeat(dogs)), (x, d) -> x.most(d, 5), 0, dogs - 1);
        }
        Twin.refusedWith("21: need of none", NEW, (x, d) -> x.need(d, 5), -1, 0);
        Twin.refusedWith("22: most of none", NEW, (x, d) -> x.most(d, 5), -1, 0);
        for (int d = 0; d < 4; d++) {
            int dog = d;
            Twin.bounds("21: need(" + d + ", n)", RICH, (x, n) -> x.need(dog, n), 0, 200);
            Twin.bounds("22: most(" + d + ", n)", RICH, (x, n) -> x.most(dog, n), 0, 200);
            Twin.unchanged("21: need(" + d + ", 200)", RICH, x -> x.need(dog, 200));
            Twin.unchanged("22: most(" + d + ", 200)", RICH, x -> x.most(dog, 200));
        }
    }

    /** No SIGNS: by LIMIT L a plain one BITES in its L + 1st TICK, a twice one in its 2 L + 2nd. */
    private static void needMost() {
        WatchDogs plain = Check.told("plain 7;");
        WatchDogs twice = Check.told("twice 7;");
        for (int n = 0; n <= 50; n++) {
            due("21: plain, need(0, " + n + ")", plain.need(0, n), n > 20 ? NONE : Math.max(1, n));
            due("22: plain, most(0, " + n + ")", plain.most(0, n), n < 2 ? NONE : Math.min(20, n - 1));
            due("21: twice, need(0, " + n + ")", twice.need(0, n), n > 41 ? NONE : Math.max(1, n / 2));
            due("22: twice, most(0, " + n + ")", twice.most(0, n), n < 4 ? NONE : Math.min(20, n / 2 - 1));
        }
        due("21: LIMIT stays", plain.dog(0, 1), 7);
        WatchDogs fed = Check.told("plain 7;signs 1;");
        due("21: it never BITES: the least LIMIT", fed.need(0, 200), 1);
        due("22: it never BITES: by none", fed.most(0, 200), NONE);
        WatchDogs window = Check.told("window 7;signs 1;");
        due("21: a window, half of 1 is 0", window.need(0, 200), 1);
        due("22: a window, the greatest LIMIT", window.most(0, 200), 20);
        // COUNT 20 already: in the next TICK it BITES by any LIMIT.
        WatchDogs late = Check.told("plain 20;");
        late.ticks(20);
        due("21: by none", late.need(0, 1), NONE);
        due("22: by the greatest", late.most(0, 1), 20);
        due("21: in no TICKS by the least", late.need(0, 0), 1);
        due("22: in no TICKS by none", late.most(0, 0), NONE);
        // That another BITES is no matter but for the RESET.
        WatchDogs two = Check.told("plain 20;plain 1;");
        due("21: need(0, 200)", two.need(0, 200), 2);
        due("22: most(0, 200)", two.most(0, 200), 1);
        due("21: need(1, 200): DOG 0 does not hold it back", two.need(1, 200), NONE);
        due("22: most(1, 200)", two.most(1, 200), 20);
    }

    // ---- promise 23

    private static void kindBounds() {
        for (int what = 0; what <= 1; what++) {
            int asked = what;
            Twin.bounds("23: kind(d, 5, " + what + ")", RICH, (x, d) -> x.kind(d, 5, asked), 0, 3);
            Twin.bounds("23: kind(2, n, " + what + ")", RICH, (x, n) -> x.kind(2, n, asked), 0, 200);
            Twin.refusedWith("23: kind of none", NEW, (x, d) -> x.kind(d, 5, asked), -1, 0);
            Twin.unchanged("23: kind(2, 200, " + what + ")", RICH, x -> x.kind(2, 200, asked));
            Twin.bounds("23: kind of one", told("half 3;"), (x, d) -> x.kind(d, 5, asked), 0, 0);
        }
        Twin.bounds("23: kind(0, 5, what)", RICH, (x, what) -> x.kind(0, 5, what), 0, 1);
    }

    private static void kind() {
        WatchDogs x = Check.told("half 1;");
        both("23: kind(0, 0)", x.kind(0, 0, 0), x.kind(0, 0, 1), 0, 0);
        both("23: kind(0, 1), all as good", x.kind(0, 1, 0), x.kind(0, 1, 1), 0, 0);
        both("23: kind(0, 2), the first of those that bark", x.kind(0, 2, 0), x.kind(0, 2, 1), 2, 0);
        both("23: kind(0, 3)", x.kind(0, 3, 0), x.kind(0, 3, 1), 2, 0);
        both("23: kind(0, 4)", x.kind(0, 4, 0), x.kind(0, 4, 1), 2, 1);
        both("23: kind(0, 199)", x.kind(0, 199, 0), x.kind(0, 199, 1), 2, 49);
        both("23: kind(0, 200)", x.kind(0, 200, 0), x.kind(0, 200, 1), 2, 50);
        due("23: KIND stays", x.dog(0, 0), 3);
        // A window BITES if it is FED at once: of the three others the first.
        WatchDogs fed = Check.told("window 9;signs 1;");
        both("23: fed at once", fed.kind(0, 200, 0), fed.kind(0, 200, 1), 0, 0);
        // Half BITES in TICK 7, so that it is FED once more ahead of the JAM; twice BITES in 8 and 14, plain in 5 and 11.
        WatchDogs half = Check.told("plain 2;signs 0 0 1 0 0 0 0;jam 11 12;");
        both("23: the last KIND", half.kind(0, 15, 0), half.kind(0, 15, 1), 3, 1);
        // RESETS of all DOGS are counted: no KIND of the other helps, the first is told.
        WatchDogs two = Check.told("half 20;window 2;signs 2;");
        both("23: another BITES each TICK", two.kind(0, 200, 0), two.kind(0, 200, 1), 0, 200);
        both("23: its own KIND", two.kind(1, 21, 0), two.kind(1, 21, 1), 0, 0);
    }

    // ---- promise 24

    private static void swapBounds() {
        for (int what = 0; what <= 1; what++) {
            int asked = what;
            Twin.bounds("24: swap(n, " + what + ")", RICH, (x, n) -> x.swap(n, asked), 0, 200);
            Twin.unchanged("24: swap(200, " + what + ")", RICH, x -> x.swap(200, asked));
            Twin.refusedWith("24: BAD ahead of NONE", NEW, (x, n) -> x.swap(n, asked), -1, 201);
        }
        Twin.bounds("24: swap(5, what)", RICH, (x, what) -> x.swap(5, what), 0, 1);
        Twin.refusedWith("24: BAD ahead of NONE, what", NEW, (x, what) -> x.swap(0, what), -1, 2);
    }

    private static void swap() {
        WatchDogs two = Check.told("window 2;signs 1 0;");
        both("24: the least two", two.swap(200, 0), two.swap(200, 1), 1, 0);
        both("24: in one TICK", two.swap(1, 0), two.swap(1, 1), 1, 0);
        // 0 0 0 1 BITES in each second TICK; 1 0 0 0 in each third, 0 1 0 0 in each fourth, 0 0 1 0 no less than it was.
        WatchDogs four = Check.told("plain 1;signs 0 0 0 1;");
        both("24: in 199", four.swap(199, 0), four.swap(199, 1), 103, 49);
        both("24: in 200", four.swap(200, 0), four.swap(200, 1), 103, 50);
        both("24: of several the least", four.swap(2, 0), four.swap(2, 1), 3, 0);
        both("24: in 3, not so", four.swap(3, 0), four.swap(3, 1), 103, 0);
        // 0 1 0 0 BITES in each fifth TICK, 0 0 1 0 in each sixth, 0 0 0 1 in each third: in six TICKS one, one and two.
        WatchDogs tie = Check.told("window 2;signs 1 0 0 0;");
        both("24: in 4, none by either", tie.swap(4, 0), tie.swap(4, 1), 1, 0);
        both("24: in 5, none by the second", tie.swap(5, 0), tie.swap(5, 1), 2, 0);
        both("24: in 6, one by either, the least", tie.swap(6, 0), tie.swap(6, 1), 1, 1);
        both("24: in 200", tie.swap(200, 0), tie.swap(200, 1), 2, 33);
        WatchDogs last = Check.told("plain 1;window 2;signs 1 2 1 2 1 2 1 2 1 2 1 2 1 2 2 1;");
        both("24: the greatest two", last.swap(16, 0), last.swap(16, 1), 1415, 0);
        WatchDogs far = Check.told("window 16;signs 1 0 0 0 0 0 0 0 0 0 0 0 0 0 0 0;");
        both("24: the first and one at its half", far.swap(15, 0), far.swap(15, 1), 8, 0);
    }

    private static void swapNone() {
        for (int what = 0; what <= 1; what++) {
            due("24: NONE: no SIGNS", Check.told("plain 1;").swap(200, what), NONE);
            due("24: NONE: one SIGN", Check.told("plain 1;signs 0;").swap(200, what), NONE);
            due("24: NONE: no DOGS", Check.told("signs 0 1;").swap(200, what), NONE);
            due("24: NONE: two that are one as the other", Check.told("plain 1;signs 0 0;").swap(200, what), NONE);
            due("24: NONE: no RESETS as it is", Check.told("plain 1;signs 0 1;").swap(200, what), NONE);
            due("24: NONE: in no TICKS", Check.told("window 2;signs 1 0;").swap(0, what), NONE);
            due("24: NONE: as many, not fewer", Check.told("plain 1;signs 0 0 1;").swap(1, what), NONE);
        }
    }

    // ---- promise 25

    private static void sleepBounds() {
        for (int what = 0; what <= 1; what++) {
            int asked = what;
            Twin.bounds("25: sleep(n, " + what + ")", RICH, (x, n) -> x.sleep(n, asked), 0, 200);
            Twin.unchanged("25: sleep(200, " + what + ")", RICH, x -> x.sleep(200, asked));
            Twin.refusedWith("25: BAD ahead of NONE", NEW, (x, n) -> x.sleep(n, asked), -1, 201);
            due("25: NONE: no DOGS", new WatchDogs().sleep(200, what), NONE);
            due("25: NONE: in no TICKS", Check.told("window 2;signs 1;").sleep(0, what), NONE);
            due("25: NONE: no RESETS as it is", Check.told("plain 1;signs 1;").sleep(200, what), NONE);
            due("25: NONE: as many, not fewer", Check.told("plain 1;plain 1;").sleep(200, what), NONE);
        }
        Twin.bounds("25: sleep(5, what)", RICH, (x, what) -> x.sleep(5, what), 0, 1);
        Twin.refusedWith("25: BAD ahead of NONE, what", NEW, (x, what) -> x.sleep(0, what), -1, 2);
    }

    private static void sleep() {
        WatchDogs one = Check.told("plain 1;");
        both("25: the only one", one.sleep(2, 0), one.sleep(2, 1), 0, 0);
        due("25: it is not LATE yet", one.sleep(1, 0), NONE);
        WatchDogs last = Check.told("plain 3;plain 3;plain 3;plain 1;");
        both("25: the last one, in 199", last.sleep(199, 0), last.sleep(199, 1), 3, 49);
        both("25: the last one, in 200", last.sleep(200, 0), last.sleep(200, 1), 3, 50);
        WatchDogs first = Check.told("plain 1;plain 3;");
        both("25: the first one", first.sleep(200, 0), first.sleep(200, 1), 0, 50);
        both("25: fewer by one", first.sleep(2, 0), first.sleep(2, 1), 0, 0);
        WatchDogs tie = Check.told("window 2;window 2;signs 1 2;");
        both("25: the one that is FED at once", tie.sleep(4, 0), tie.sleep(4, 1), 0, 0);
        WatchDogs even = Check.told("plain 20;window 8;window 8;signs 2 4;");
        both("25: as good as another, the first", even.sleep(6, 0), even.sleep(6, 1), 1, 3);
        WatchDogs window = Check.told("window 9;signs 1;");
        both("25: it is not FED", window.sleep(200, 0), window.sleep(200, 1), 0, 0);
    }

    // ---- promises 26, 27

    private static void luckMeanBounds() {
        String[] names = {"26: luck", "27: mean"};
        Fraction[] calls = {WatchDogs::luck, WatchDogs::mean};
        for (int c = 0; c < 2; c++) {
            Fraction call = calls[c];
            for (int what = 0; what <= 1; what++) {
                int asked = what;
                Twin.bounds(names[c] + "(v, 3, " + what + ")", RICH, (x, v) -> call.of(x, v, 3, asked), 0, 10);
                Twin.bounds(names[c] + "(3, n, " + what + ")", RICH, (x, n) -> call.of(x, 3, n, asked), 0, 8);
                Twin.bounds(names[c] + "(v, 0, " + what + ") of nothing", NEW, (x, v) -> call.of(x, v, 0, asked), 0, 10);
                Twin.unchanged(names[c] + "(3, 8, " + what + ")", RICH, x -> call.of(x, 3, 8, asked));
            }
            Twin.bounds(names[c] + "(3, 3, what)", RICH, (x, what) -> call.of(x, 3, 3, what), 0, 1);
        }
    }

    private static void fraction(String of, WatchDogs x, int v, int n, long[] luck, long[] mean) {
        both("26: luck(" + v + ", " + n + "), " + of, x.luck(v, n, 0), x.luck(v, n, 1), luck[0], luck[1]);
        both("27: mean(" + v + ", " + n + "), " + of, x.mean(v, n, 0), x.mean(v, n, 1), mean[0], mean[1]);
    }

    private static long[] by(long above, long below) {
        return new long[] {above, below};
    }

    private static void luckMean() {
        // It BITES in TICK 7 if all eight are lost.
        WatchDogs all = Check.told("plain 7;signs 1;");
        fraction("seven", all, 10, 7, by(1, 1), by(0, 1));
        fraction("eight", all, 10, 8, by(0, 1), by(1, 1));
        fraction("one out of ten", all, 1, 8, by(99999999L, 100000000L), by(1, 100000000L));
        fraction("nine out of ten", all, 9, 8, by(100000000L - 43046721L, 100000000L), by(43046721L, 100000000L));
        fraction("lowest terms", all, 5, 8, by(255, 256), by(1, 256));
        fraction("none out of ten", all, 0, 8, by(1, 1), by(0, 1));
        fraction("in no TICKS", all, 10, 0, by(1, 1), by(0, 1));
        // A window BITES in each TICK in which it is FED at once.
        WatchDogs window = Check.told("window 20;signs 1;");
        fraction("each TICK", window, 0, 8, by(0, 1), by(8, 1));
        fraction("each TICK but one", window, 0, 7, by(0, 1), by(7, 1));
        fraction("all lost", window, 10, 8, by(1, 1), by(0, 1));
        fraction("one TICK", window, 4, 1, by(2, 5), by(3, 5));
        fraction("one TICK", window, 5, 1, by(1, 2), by(1, 2));
        // COUNT stays far below half of 20 in eight TICKS, so each TICK that is not lost BITES.
        fraction("by itself each", window, 5, 8, by(1, 256), by(4, 1));
        fraction("by itself each", window, 3, 8, by(6561, 100000000L), by(28, 5));
        fraction("no DOGS", new WatchDogs(), 5, 8, by(1, 1), by(0, 1));
    }

    private static void luckMeanPlace() {
        // PLACE goes on though the SIGN is lost: DOG 0 is FED by the last SIGN alone.
        WatchDogs last = Check.told("plain 2;signs 0 0 1;");
        fraction("PLACE goes on", last, 3, 3, by(7, 10), by(3, 10));
        // It does not while it is STUCK, nor is a SIGN lost then.
        WatchDogs stuck = Check.told("plain 2;signs 1 0 0 0;jam 0 2;");
        fraction("STUCK", stuck, 3, 2, by(1, 1), by(0, 1));
        fraction("behind it", stuck, 3, 3, by(7, 10), by(3, 10));
        // BY TICKS from now on: a RESET in the next TICK but one, whatever is lost.
        fraction("from now on", Twin.of(RICH), 3, 2, by(0, 1), by(1, 1));
        fraction("from now on", Twin.of(RICH), 3, 1, by(1, 1), by(0, 1));
    }
}
