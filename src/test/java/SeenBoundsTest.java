/** The boundary cases of promises 28 to 33: from when all began anew, by a seed. */
public final class SeenBoundsTest {
    private static final int BAD = -1, STATE = -2, FULL = -3, NONE = -4;
    private static final int ALL_LIMITS = (1 << 21) - 2;
    private static final Twin.Made RICH = Twin::rich;
    private static final Twin.Made NEW = x -> { };

    public static void main(String[] args) {
        see();
        forget();
        kindsBounds();
        kinds();
        limits();
        seenTicks();
        askBounds();
        ask();
        driftBounds();
        drift();
        driftWraps();
        driftStuck();
        Check.finish();
    }

    private static void due(String call, long got, long want) {
        Check.due(call, got, want);
    }

    private static Twin.Made told(String text) {
        return x -> Check.tell(x, text);
    }

    private static Twin.Made seen(String text, int... ticksWithout) {
        return x -> {
            Check.tell(x, text);
            for (int t : ticksWithout) {
                x.see(t, 0);
            }
        };
    }

    // ---- promise 28

    private static void see() {
        Twin.bounds("28: see(n, 0)", NEW, (x, n) -> x.see(n, 0), 0, 40);
        Twin.bounds("28: see(n, 1)", RICH, (x, n) -> x.see(n, 1), 0, 40);
        Twin.bounds("28: see(0, v)", NEW, (x, v) -> x.see(0, v), 0, 1);
        Twin.bounds("28: see(40, v)", RICH, (x, v) -> x.see(40, v), 0, 1);
        WatchDogs x = new WatchDogs();
        for (int n = 1; n <= 6; n++) {
            due("28: see, the " + n + ".", x.see(40, 1), n);
            due("40: SEEN", x.count(0), n);
        }
        Twin.Made five = seen("plain 5;", 1, 2, 3, 4, 0);
        Twin.Made six = seen("plain 5;", 1, 2, 3, 4, 0, 7);
        due("28: the 6th", Twin.of(five).see(7, 0), 6);
        Twin.refused("28: FULL: the 7th", six, y -> y.see(0, 0), FULL);
        Twin.refused("28: FULL: the 7th", six, y -> y.see(40, 1), FULL);
        Twin.refused("28: FULL: the 7th, SEEN already", six, y -> y.see(7, 0), FULL);
        Twin.refusedWith("28: BAD ahead of FULL, its TICK", six, (y, n) -> y.see(n, 0), -1, 41);
        Twin.refusedWith("28: BAD ahead of FULL, v", six, (y, v) -> y.see(0, v), -1, 2);
        WatchDogs y = Twin.of(six);
        y.forget(5);
        due("28: room for one again", y.see(5, 1), 6);
        due("28: and for no other", y.see(5, 1), FULL);
        due("28: LIMITS by the new one", y.limits(0), 1 << 5);
    }

    // ---- promise 29

    private static void forget() {
        Twin.bounds("29: forget of none", NEW, WatchDogs::forget, 0, 0);
        Twin.bounds("29: forget of three", RICH, WatchDogs::forget, 0, 3);
        Twin.bounds("29: forget of six", seen("plain 5;", 1, 2, 3, 4, 0, 7), WatchDogs::forget, 0, 6);
        Twin.unchanged("29: forget(3) of three", RICH, x -> x.forget(3));
        Twin.unchanged("29: forget(0) of none", NEW, x -> x.forget(0));
        // The first n alone: those of LIMITS 1 to 4, of which the latest are forgotten first.
        WatchDogs x = Twin.of(seen("plain 5;", 1, 2, 3));
        due("29: LIMITS by three", x.limits(0), ALL_LIMITS & ~14);
        due("29: forget(2)", x.forget(2), 3);
        due("29: LIMITS by two", x.limits(0), ALL_LIMITS & ~6);
        due("29: forget(3) then", x.forget(3), BAD);
        due("29: forget(1)", x.forget(1), 2);
        due("29: LIMITS by one", x.limits(0), ALL_LIMITS & ~2);
        due("29: forget(0)", x.forget(0), 1);
        due("29: LIMITS by none", x.limits(0), ALL_LIMITS);
        due("29: forget(0) again", x.forget(0), 0);
    }

    // ---- promises 30, 31

    private static void kindsBounds() {
        Twin.bounds("30: kinds", RICH, WatchDogs::kinds, 0, 3);
        Twin.bounds("31: limits", RICH, WatchDogs::limits, 0, 3);
        for (int dogs = 1; dogs <= 3; dogs++) {
            Twin.bounds("30: kinds of " + dogs, told("half 3;".repeat(dogs)), WatchDogs::kinds, 0, dogs - 1);
            Twin.bounds("31: limits of " + dogs, told("half 3;".repeat(dogs)), WatchDogs::limits, 0, dogs - 1);
        }
        Twin.refusedWith("30: kinds of none", NEW, WatchDogs::kinds, -1, 0);
        Twin.refusedWith("31: limits of none", NEW, WatchDogs::limits, -1, 0);
        for (int d = 0; d < 4; d++) {
            int dog = d;
            Twin.unchanged("30: kinds(" + d + ")", RICH, x -> x.kinds(dog));
            Twin.unchanged("31: limits(" + d + ")", RICH, x -> x.limits(dog));
        }
    }

    private static void kinds() {
        WatchDogs x = Check.told("plain 3;signs 1 0 0 0 0 0;");
        due("30: nothing SEEN: all", x.kinds(0), 15);
        // FED in TICK 0: a window BITES then; a plain one in TICK 4; twice and half in TICK 6 at the soonest, but are FED.
        x.see(0, 1);
        due("30: window alone", x.kinds(0), 2);
        x.forget(0);
        x.see(0, 0);
        due("30: all but window", x.kinds(0), 13);
        x.see(4, 1);
        due("30: plain alone", x.kinds(0), 1);
        x.forget(1);
        x.see(4, 0);
        due("30: twice and half", x.kinds(0), 12);
        x.see(4, 1);
        due("30: what can not be: none", x.kinds(0), 0);
        due("31: what can not be: none", x.limits(0), 0);
        due("30: KIND stays", x.dog(0, 0), 0);
    }

    private static void limits() {
        WatchDogs x = Check.told("plain 3;");
        due("31: nothing SEEN: bits 1 to 20", x.limits(0), ALL_LIMITS);
        for (int t = 0; t <= 40; t++) {
            int want = 0;
            for (int limit = 1; limit <= 20; limit++) {
                want |= (t + 1) % (limit + 1) == 0 ? 1 << limit : 0;
            }
            x.see(t, 1);
            due("31: a RESET in TICK " + t, x.limits(0), want);
            x.forget(0);
            x.see(t, 0);
            due("31: none in TICK " + t, x.limits(0), ALL_LIMITS & ~want);
            x.forget(0);
        }
        due("31: LIMIT stays", x.dog(0, 1), 3);
        // All else as it is: another's RESETS come too, and make COUNT 0.
        WatchDogs two = Check.told("plain 20;plain 2;");
        two.see(2, 1);
        due("31: by another's RESET", two.limits(0), ALL_LIMITS & ~2);
        two.see(3, 1);
        due("31: in TICKS 2 and 3: none", two.limits(0), 0);
    }

    /** TICK n is the one behind n more, whenever it is asked; TICK 40 is the last. */
    private static void seenTicks() {
        WatchDogs x = Check.told("twice 19;");
        x.see(39, 1);
        due("31: LIMIT 19 BITES in TICK 39", x.limits(0) >> 19 & 1, 1);
        x.forget(0);
        x.see(40, 1);
        due("31: not in TICK 40", x.limits(0) >> 19 & 1, 0);
        due("31: nor LIMIT 20", x.limits(0) >> 20 & 1, 0);
        x.ticks(1);
        due("31: LIMIT 20 does, a TICK later", x.limits(0) >> 20 & 1, 1);
        x.forget(0);
        x.see(0, 0);
        due("31: in this TICK there is none", x.limits(0), ALL_LIMITS);
        WatchDogs y = Check.told("plain 20;");
        y.ticks(1);
        y.see(0, 1);
        due("31: in this TICK, COUNT 1", y.limits(0), 2);
        y.ticks(4);
        due("31: in this TICK, COUNT 5", y.limits(0), 62);
        // As SEEN through all six, the last as the first.
        WatchDogs six = Twin.of(seen("plain 1;", 0, 2, 4, 6, 8));
        due("30: five", six.kinds(0), 15);
        six.see(1, 1);
        due("30: six", six.kinds(0), 3);
    }

    // ---- promise 32

    private static void askBounds() {
        for (int what = 0; what <= 1; what++) {
            int asked = what;
            Twin.bounds("32: ask(d, " + what + ")", RICH, (x, d) -> x.ask(d, asked), 0, 3);
            Twin.refusedWith("32: ask of none", NEW, (x, d) -> x.ask(d, asked), -1, 0);
            Twin.bounds("32: ask of one", told("half 3;"), (x, d) -> x.ask(d, asked), 0, 0);
            Twin.unchanged("32: ask(2, " + what + ")", RICH, x -> x.ask(2, asked));
            Twin.unchanged("32: ask(0, " + what + ") of one", seen("half 3;", 1, 2), x -> x.ask(0, asked));
        }
        Twin.bounds("32: ask(0, what)", RICH, (x, what) -> x.ask(0, what), 0, 1);
        Twin.refusedWith("32: BAD ahead of NONE", told("plain 1;signs 1;"), (x, what) -> x.ask(0, what), -1, 2);
    }

    private static void ask(String of, WatchDogs x, int tick, int left) {
        due("32: in which TICK, " + of, x.ask(0, 0), tick);
        due("32: how many are left, " + of, x.ask(0, 1), left);
    }

    private static void ask() {
        ask("all are left, seven of twenty BITE in TICK 35", Check.told("plain 3;"), 35, 13);
        ask("NONE: no RESET by any", Check.told("plain 3;signs 1;"), NONE, NONE);
        // By LIMIT 1 it BITES in TICK 1 alone of all: then one is left.
        WatchDogs one = Check.told("plain 3;");
        one.see(1, 1);
        due("31: one is left", one.limits(0), 2);
        ask("NONE: one is left", one, NONE, NONE);
        one.see(1, 0);
        due("31: none is left", one.limits(0), 0);
        ask("NONE: none is left", one, NONE, NONE);
        // 2 and 5 are left of those that BITE in TICK 5 but not in TICK 1 (LIMIT 1 does in both).
        WatchDogs two = Twin.of(seen("plain 3;", 1));
        two.see(5, 1);
        due("31: two are left", two.limits(0), 1 << 2 | 1 << 5);
        ask("two are left: the first TICK that tells them apart", two, 2, 1);
        // In this TICK ten BITE, ten do not.
        WatchDogs now = Check.told("plain 20;");
        now.ticks(10);
        ask("in TICK 0", now, 0, 10);
        // Up to TICK 40 LIMIT 1 alone BITES, in TICK 40.
        ask("in TICK 40", Check.told("plain 5;signs 1;jam 39 40;"), 40, 19);
        ask("NONE: in TICK 41", Check.told("plain 5;signs 1;jam 40 40;"), NONE, NONE);
        // Six are SEEN: it is told all the same.
        ask("six are SEEN", Twin.of(seen("plain 3;", 0, 0, 0, 0, 0, 0)), 35, 13);
    }

    // ---- promise 33

    private static void driftBounds() {
        for (int what = 0; what <= 1; what++) {
            int asked = what;
            Twin.bounds("33: drift(7, n, " + what + ")", RICH, (x, n) -> x.drift(7, n, asked), 1, 200);
            Twin.unchanged("33: drift(7, 200, " + what + ")", RICH, x -> x.drift(7, 200, asked));
            Twin.refused("33: STATE: no DOGS", NEW, x -> x.drift(7, 1, asked), STATE);
            Twin.refused("33: STATE: no DOGS", told("signs 1;jam 1 1;"), x -> x.drift(7, 200, asked), STATE);
            Twin.refusedWith("33: BAD ahead of STATE", NEW, (x, n) -> x.drift(7, n, asked), 0, 201);
        }
        Twin.bounds("33: drift(7, 5, what)", RICH, (x, what) -> x.drift(7, 5, what), 0, 1);
        Twin.refusedWith("33: BAD ahead of STATE, what", NEW, (x, what) -> x.drift(7, 5, what), -1, 2);
        for (int seed : new int[] {Integer.MIN_VALUE, -1, 0, 1, Integer.MAX_VALUE}) {
            Check.holds("33: any seed", Twin.of(RICH).drift(seed, 200, 0) >= 0);
        }
    }

    /** Bits 16 to 30 of seed times 1103515245 and 12345, worked out in longs. */
    private static int[] signsOf(int seed, int n) {
        int[] signs = new int[n];
        long state = seed & 0xffffffffL;
        for (int t = 0; t < n; t++) {
            state = (state * 1103515245L + 12345L) % (1L << 32);
            signs[t] = (int) (state / 65536 % 32768 % 16);
        }
        return signs;
    }

    /** Each SIGN of four plain DOGS that are never LATE shows in the COUNTS: those of its bits are 0. */
    private static void drift() {
        int[] seeds = {0, 1, 7, -1, 65535, 65536, 0x7fff0000, 0x80000000, Integer.MAX_VALUE, -65536, 123456789};
        for (int seed : seeds) {
            int[] signs = signsOf(seed, 20);
            int[] counts = new int[4];
            WatchDogs x = Check.told("plain 20;plain 20;plain 20;plain 20;");
            for (int n = 1; n <= 20; n++) {
                int sum = 0;
                for (int d = 0; d < 4; d++) {
                    counts[d] = (signs[n - 1] >> d & 1) == 1 ? 0 : counts[d] + 1;
                    sum += counts[d];
                }
                due("33: drift(" + seed + ", " + n + ", 1)", x.drift(seed, n, 1), sum);
                due("33: drift(" + seed + ", " + n + ", 0)", x.drift(seed, n, 0), 0);
            }
        }
    }

    /** A window of LIMIT 2 BITES whenever it is FED at COUNT 0: 200 TICKS, and the 200th counts. */
    private static void driftWraps() {
        for (int seed : new int[] {0, 7, -7, Integer.MAX_VALUE}) {
            int[] signs = signsOf(seed, 200);
            WatchDogs x = Check.told("window 2;");
            int count = 0;
            int resets = 0;
            for (int n = 1; n <= 200; n++) {
                boolean fed = (signs[n - 1] & 1) == 1;
                boolean bites = fed ? count < 1 : count + 1 > 2;
                count = fed || bites ? 0 : count + 1;
                resets += bites ? 1 : 0;
                due("33: drift(" + seed + ", " + n + ", 0)", x.drift(seed, n, 0), resets);
                due("33: drift(" + seed + ", " + n + ", 1)", x.drift(seed, n, 1), count);
            }
        }
    }

    /** While it is STUCK nobody is FED, though the seed goes on. */
    private static void driftStuck() {
        int[] signs = signsOf(3, 6);
        for (int length = 1; length <= 5; length++) {
            WatchDogs x = Check.told("plain 20;plain 20;plain 20;plain 20;signs 15;jam 0 " + length + ";");
            int sum = 0;
            for (int d = 0; d < 4; d++) {
                int count = 0;
                for (int t = 0; t < 6; t++) {
                    count = t >= length && (signs[t] >> d & 1) == 1 ? 0 : count + 1;
                }
                sum += count;
            }
            due("33: STUCK for " + length, x.drift(3, 6, 1), sum);
        }
        // PLACE is not in it: the SIGNS that there are change nothing; bits of no DOG count for nothing.
        WatchDogs one = Check.told("half 20;");
        WatchDogs other = Check.told("half 20;signs 1 1 0 1;");
        other.ticks(2);
        other.bone(0);
        for (int n = 1; n <= 40; n++) {
            due("33: whatever the SIGNS", other.drift(9, n, 1), one.drift(9, n, 1));
        }
    }
}
