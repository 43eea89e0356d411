/** The boundary cases of a TICK (Terms 1 and 2) and of promises 17 to 20. */
public final class TickBoundsTest {
    private static final int BAD = -1, FULL = -3, NONE = -4;
    private static final Twin.Made RICH = Twin::rich;
    private static final Twin.Made NEW = x -> { };

    public static void main(String[] args) {
        late();
        fedTooSoon();
        halfFed();
        stuck();
        stuckAndFree();
        place();
        bitsOfNoDog();
        resets();
        resetIsWhole();
        ticks();
        ticksFull();
        runs();
        ahead();
        when();
        Check.finish();
    }

    private static void due(String call, long got, long want) {
        Check.due(call, got, want);
    }

    private static Twin.Made told(String text) {
        return x -> Check.tell(x, text);
    }

    /** A run of TICKS that leaves TICK there. */
    private static Twin.Made at(String text, int tick) {
        return x -> {
            Check.tell(x, text);
            for (int t = 0; t < tick; t += 100) {
                x.ticks(Math.min(100, tick - t));
            }
        };
    }

    // ---- Terms: LATE

    /** Above LIMIT, not at it; at the second bark, not at the first. */
    private static void late() {
        for (int limit : new int[] {1, 2, 19, 20}) {
            for (String kind : new String[] {"plain", "window"}) {
                WatchDogs x = Check.told(kind + " " + limit + ";");
                due("17: " + kind + " at LIMIT", x.ticks(limit), 0);
                due("17: COUNT is LIMIT", x.dog(0, 2), limit);
                due("17: " + kind + " above LIMIT", x.ticks(1), 1);
                due("17: COUNT is 0", x.dog(0, 2), 0);
                due("17: BARKS is 0", x.dog(0, 3), 0);
            }
            for (String kind : new String[] {"twice", "half"}) {
                WatchDogs x = Check.told(kind + " " + limit + ";");
                due("17: " + kind + " at LIMIT", x.ticks(limit), 0);
                due("17: COUNT is LIMIT", x.dog(0, 2), limit);
                due("17: BARKS is 0 still", x.dog(0, 3), 0);
                due("17: " + kind + " barks", x.ticks(1), 0);
                due("17: COUNT is 0 behind a bark", x.dog(0, 2), 0);
                due("17: BARKS is 1", x.dog(0, 3), 1);
                due("17: " + kind + " at LIMIT again", x.ticks(limit), 0);
                due("17: BARKS is 1 still", x.dog(0, 3), 1);
                due("17: " + kind + " barks again and bites", x.ticks(1), 1);
                due("17: BARKS is 0 behind a RESET", x.dog(0, 3), 0);
                due("17: COUNT is 0 behind a RESET", x.dog(0, 2), 0);
            }
        }
        // A bark, then it is FED: the next bark is the first again.
        for (String kind : new String[] {"twice", "half"}) {
            WatchDogs x = Check.told(kind + " 1;signs 0 0 1;");
            due("17: " + kind + " is fed between its barks", x.ticks(100), 0);
            due("18: it barks each round", x.runs(30, 2), 10);
            due("17: " + kind + " is fed in the TICK of its second bark", Check.told(kind + " 1;signs 0 0 0 1;").when(), NONE);
            due("17: " + kind + " is fed behind its second bark", Check.told(kind + " 1;signs 0 0 0 0 1;").when(), 3);
        }
    }

    // ---- Terms: FED

    private static void fedTooSoon() {
        for (int limit = 1; limit <= 20; limit++) {
            for (int count = 0; count <= Math.min(limit, 15); count++) {
                WatchDogs x = Check.told("window " + limit + ";signs " + "0 ".repeat(count) + "1;");
                boolean soon = 2 * count + 1 < limit;
                due("17: window " + limit + " is fed at COUNT " + count, x.ticks(count + 1), soon ? 1 : 0);
                due("17: COUNT is 0 either way", x.dog(0, 2), 0);
                due("18: it was FED either way", Check.told("window " + limit + ";signs " + "0 ".repeat(count) + "1;")
                    .runs(count + 1, 3), 1);
            }
        }
    }

    private static void halfFed() {
        int[] half = {0, 0, 1, 1, 2, 2, 3, 3, 4, 4, 5, 5, 6, 6, 7, 7};
        for (int count = 0; count <= 15; count++) {
            WatchDogs x = Check.told("half 20;signs " + "0 ".repeat(count) + "1;");
            x.ticks(count + 1);
            due("17: half is fed at COUNT " + count, x.dog(0, 2), half[count]);
        }
    }

    // ---- Terms: STUCK

    private static void stuck() {
        for (int[] jam : new int[][] {{0, 1}, {0, 40}, {3, 1}, {3, 2}, {99, 1}, {99, 40}}) {
            int from = jam[0];
            int length = jam[1];
            String text = "half 20;signs 1;jam " + from + " " + length + ";";
            due("6: STUCK in the JAM's TICK", Twin.of(at(text, from)).rule(6), 1);
            due("6: STUCK in its last", Twin.of(at(text, from + length - 1)).rule(6), 1);
            due("6: not STUCK behind it", Twin.of(at(text, from + length)).rule(6), 0);
            if (from > 0) {
                due("6: not STUCK ahead of it", Twin.of(at(text, from - 1)).rule(6), 0);
            }
            due("18: so many TICKS", Check.told(text).runs(200, 1), length);
        }
        // PLACE stays and nobody is FED while it is STUCK; behind it the SIGN that was next is.
        WatchDogs x = Check.told("plain 20;signs 0 1 0;jam 1 3;");
        int[] counts = {0, 1, 2, 3, 4, 0, 1};
        int[] places = {0, 1, 1, 1, 1, 2, 0};
        for (int t = 0; t < counts.length; t++) {
            due("17: COUNT in TICK " + t, x.dog(0, 2), counts[t]);
            due("17: PLACE in TICK " + t, x.rule(5), places[t]);
            due("19: COUNT in TICK " + t, Check.told("plain 20;signs 0 1 0;jam 1 3;").ahead(0, t, 0), counts[t]);
            x.ticks(1);
        }
        // Any JAM does; two over one another are no more than both; two beside one another are one.
        WatchDogs y = Check.told("half 20;signs 1;jam 30 2;jam 5 4;jam 7 3;jam 10 1;");
        due("18: STUCK by any", y.runs(200, 1), 8);
        due("18: the first", y.runs(6, 1), 1);
        due("18: ahead of the first", y.runs(5, 1), 0);
        due("18: the sixth", y.runs(11, 1), 6);
        due("18: the seventh", y.runs(31, 1), 7);
        due("6: STUCK without DOGS and SIGNS", Check.told("jam 0 1;").rule(6), 1);
    }

    /** A JAM's TICK is not below FREE: a RESET in TICK 1 makes FREE 2. */
    private static void stuckAndFree() {
        for (int from = 0; from <= 3; from++) {
            WatchDogs x = Check.told("plain 1;jam " + from + " 9;");
            due("17: a RESET", x.ticks(2), 1);
            due("6: FREE", x.rule(8), 2);
            due("6: STUCK by a JAM from " + from, x.rule(6), from == 2 ? 1 : 0);
            x.ticks(1);
            due("6: STUCK by a JAM from " + from + ", a TICK later", x.rule(6), from >= 2 ? 1 : 0);
        }
        // The JAM is over with the RESET that it brings about; else it would go on to its end.
        WatchDogs y = Check.told("plain 2;signs 1;jam 4 40;");
        due("18: STUCK until it bites", y.runs(200, 1), 3);
        due("18: one RESET", y.runs(200, 0), 1);
        due("20: when()", y.when(), 6);
        // A RESET in the TICK ahead of the JAM leaves the JAM as it is.
        WatchDogs z = Check.told("plain 1;twice 1;signs 0 0 3 3 3;jam 2 2;");
        z.ticks(2);
        due("6: FREE 2", z.rule(8), 2);
        due("6: a JAM from 2", z.rule(6), 1);
    }

    // ---- Terms: PLACE

    private static void place() {
        for (int signs : new int[] {1, 2, 3, 15, 16}) {
            WatchDogs x = Check.told("plain 20;signs" + " 1".repeat(signs) + ";");
            for (int t = 0; t <= 2 * signs; t++) {
                due("17: PLACE of " + signs + " in TICK " + t, x.rule(5), t % signs);
                x.ticks(1);
            }
        }
        WatchDogs x = Check.told("plain 20;");
        x.ticks(5);
        due("17: no SIGNS, PLACE is 0", x.rule(5), 0);
        due("17: no SIGNS, nobody is FED", x.dog(0, 2), 5);
        // The last SIGN is done, then the first one.
        WatchDogs y = Check.told("plain 20;plain 20;signs 2 2 1;");
        y.ticks(3);
        due("17: the last SIGN", y.dog(0, 2), 0);
        y.ticks(1);
        due("17: the first SIGN again", y.dog(1, 2), 0);
    }

    private static void bitsOfNoDog() {
        for (int dogs = 1; dogs <= 4; dogs++) {
            WatchDogs x = Check.told("half 20;".repeat(dogs) + "signs 15;");
            due("18: FED of " + dogs, x.runs(10, 3), 10 * dogs);
            due("17: COUNTS", x.drift(0, 1, 1), dogs);
        }
        WatchDogs none = Check.told("signs 15;");
        due("18: FED of none", none.runs(10, 3), 0);
        due("17: ticks", none.ticks(10), 0);
        due("17: PLACE goes on", Check.told("signs 15 15 15;").ticks(2) + none.rule(5), 0);
        WatchDogs three = Check.told("plain 1;plain 1;plain 1;signs 8;");
        due("17: DOG 3 that there is not is FED, no other", three.ticks(2), 1);
    }

    // ---- Terms: RESETS

    /** 999 at most; all else of a RESET goes on. */
    private static void resets() {
        String text = "plain 9;window 2;signs 2;";
        WatchDogs x = Twin.of(at(text, 998));
        due("17: RESETS 998", x.rule(4), 998);
        due("17: the 999th", x.ticks(1), 1);
        due("17: RESETS 999", x.rule(4), 999);
        due("17: the 1000th", x.ticks(1), 1);
        due("17: RESETS 999 still", x.rule(4), 999);
        due("17: FREE goes on", x.rule(8), 1000);
        due("17: LAST", x.rule(7), 1);
        due("17: TICK goes on", x.rule(3), 1000);
        due("17: a hundred beyond", x.ticks(100), 100);
        due("17: RESETS 999 still", x.rule(4), 999);
        due("18: beyond 999, too", x.runs(200, 0), 200);
        due("19: bites beyond 999", x.ahead(1, 200, 2), 200);
        due("33: by a seed, beyond 999", x.drift(7, 200, 0), Check.told(text).drift(7, 200, 0));
        WatchDogs y = Twin.of(at(text, 900));
        due("18: over 999", y.runs(200, 0), 200);
        due("17: over 999", y.ticks(100), 100);
        due("17: RESETS", y.rule(4), 999);
        due("23: RESETS by KIND over 999", y.kind(0, 200, 1), 200);
        due("25: RESETS asleep over 999", y.sleep(200, 1), 20);
        due("27: mean over 999", y.mean(0, 8, 0), 8);
    }

    private static void resetIsWhole() {
        // Two BITE in one TICK: LAST is the first by order; PLACE, all COUNTS and BARKS are 0; FREE is TICK and 1.
        WatchDogs x = Check.told("half 20;plain 3;twice 1;window 3;signs 1 0 0 0 0;");
        due("17: ahead of it", x.ticks(3), 0);
        due("17: LAST is none", x.rule(7), NONE);
        due("17: BARKS", x.dog(2, 3), 1);
        due("17: one RESET, by three", x.ticks(1), 1);
        int[] want = {4, 5, 0, 4, 1, 0, 0, 1, 4};
        for (int what = 0; what <= 8; what++) {
            due("17: rule(" + what + ") behind it", x.rule(what), want[what]);
        }
        for (int d = 0; d < 4; d++) {
            due("17: COUNT of " + d, x.dog(d, 2), 0);
            due("17: BARKS of " + d, x.dog(d, 3), 0);
        }
        WatchDogs y = Check.told("half 20;plain 3;twice 1;window 3;signs 1 0 0 0 0;");
        int[] bites = {0, 1, 1, 1};
        for (int d = 0; d < 4; d++) {
            due("19: bites of " + d, y.ahead(d, 4, 2), bites[d]);
            due("19: none ahead of it, " + d, y.ahead(d, 3, 2), 0);
        }
        // One that is FED too soon and one that is LATE, in either order.
        WatchDogs late = Check.told("plain 1;window 9;signs 0 2;");
        late.ticks(2);
        due("17: the LATE one is first by order", late.rule(7), 0);
        WatchDogs fed = Check.told("window 9;plain 1;signs 0 1;");
        fed.ticks(2);
        due("17: the FED one is first by order", fed.rule(7), 0);
        WatchDogs last = Check.told("plain 9;plain 9;plain 9;plain 1;");
        last.ticks(2);
        due("17: the last DOG", last.rule(7), 3);
    }

    // ---- promise 17

    private static void ticks() {
        Twin.bounds("17: ticks", RICH, WatchDogs::ticks, 0, 100);
        Twin.bounds("17: ticks of nothing", NEW, WatchDogs::ticks, 0, 100);
        Twin.unchanged("17: ticks(0)", RICH, x -> x.ticks(0));
        WatchDogs x = new WatchDogs();
        due("17: ticks(100)", x.ticks(100), 0);
        due("17: TICK", x.rule(3), 100);
        due("17: ticks(1)", x.ticks(1), 0);
        due("17: TICK", x.rule(3), 101);
        // RESETS in TICKS 1, 3, ..: the last of n counts, the next one does not.
        for (int n = 0; n <= 100; n++) {
            due("17: ticks(" + n + ")", Check.told("plain 1;").ticks(n), n / 2);
        }
        WatchDogs one = Twin.of(RICH);
        due("17: ticks(2), a RESET in the second", one.ticks(2), 1);
        WatchDogs two = Twin.of(RICH);
        due("17: ticks(1)", two.ticks(1), 0);
        due("17: ticks(1), the RESET", two.ticks(1), 1);
        due("17: SEEN stays", two.count(0), 3);
        due("17: IMAGES stay", two.count(1), 1);
        due("17: THE TAPE stays", two.count(2), 7);
    }

    /** TICK would be 10000 or more. */
    private static void ticksFull() {
        String text = "plain 3;signs 1;";
        due("17: from 9899 to 9999", Twin.of(at(text, 9899)).ticks(100), 0);
        Twin.refused("17: FULL: from 9900 to 10000", at(text, 9900), x -> x.ticks(100), FULL);
        due("17: from 9900 to 9999", Twin.of(at(text, 9900)).ticks(99), 0);
        Twin.refused("17: FULL: from 9950 to 10001", at(text, 9950), x -> x.ticks(51), FULL);
        due("17: from 9998 to 9999", Twin.of(at(text, 9998)).ticks(1), 0);
        Twin.refused("17: FULL: from 9998 to 10000", at(text, 9998), x -> x.ticks(2), FULL);
        Twin.Made end = at(text, 9999);
        due("17: TICK 9999", Twin.of(end).rule(3), 9999);
        due("17: from 9999 to 9999", Twin.of(end).ticks(0), 0);
        Twin.refused("17: FULL: from 9999 to 10000", end, x -> x.ticks(1), FULL);
        Twin.refused("17: FULL: from 9999 to 10099", end, x -> x.ticks(100), FULL);
        Twin.refusedWith("17: BAD ahead of FULL", end, WatchDogs::ticks, -1, 101);
        // BY TICKS it goes beyond.
        WatchDogs x = Twin.of(at("plain 1;", 9999));
        due("18: BY TICKS beyond 9999", x.runs(200, 0), 100);
        due("20: BY TICKS beyond 9999", x.when(), 0);
        due("33: BY TICKS beyond 9999", x.drift(0, 1, 0), 1);
        x.keep(0);
        due("35: back(0)", x.back(0), 9999);
    }

    // ---- promise 18

    private static void runs() {
        for (int what = 0; what <= 3; what++) {
            int asked = what;
            Twin.bounds("18: runs(n, " + what + ")", RICH, (x, n) -> x.runs(n, asked), 0, 200);
            Twin.unchanged("18: runs(200, " + what + ")", RICH, x -> x.runs(200, asked));
            due("18: runs(0, " + what + ")", Twin.of(RICH).runs(0, what), 0);
            due("18: runs(200, " + what + ") of nothing", new WatchDogs().runs(200, what), 0);
        }
        Twin.bounds("18: runs(5, what)", RICH, (x, what) -> x.runs(5, what), 0, 3);
        Twin.bounds("18: runs(0, what)", NEW, (x, what) -> x.runs(0, what), 0, 3);
        WatchDogs x = Check.told("plain 1;");
        for (int n = 0; n <= 200; n++) {
            due("18: RESETS in " + n, x.runs(n, 0), n / 2);
        }
        WatchDogs y = Check.told("twice 1;plain 20;signs 0 0 0 0 2;");
        for (int n = 0; n <= 200; n++) {
            // It barks in TICKS 1 and 3, 5 and 7, ..: in the even ones it BITES, which begins the SIGNS anew.
            due("18: BARKS in " + n, y.runs(n, 2), n / 2);
            due("18: DOG 1 is never FED in " + n, y.runs(n, 3), 0);
        }
        WatchDogs z = Check.told("plain 20;plain 20;signs 1 3 0;");
        for (int n = 0; n <= 200; n++) {
            due("18: FED in " + n, z.runs(n, 3), n / 3 * 3 + new int[] {0, 1, 3}[n % 3]);
        }
        // FED by SIGNS, not by hand.
        z.bone(0);
        due("18: FED in 1, behind a bone", z.runs(1, 3), 1);
        WatchDogs stuck = Check.told("half 20;signs 1;jam 0 3;");
        due("18: not FED while STUCK", stuck.runs(3, 3), 0);
        due("18: FED behind it", stuck.runs(4, 3), 1);
    }

    // ---- promise 19

    private static void ahead() {
        for (int what = 0; what <= 2; what++) {
            int asked = what;
            Twin.bounds("19: ahead(d, 5, " + what + ")", RICH, (x, d) -> x.ahead(d, 5, asked), 0, 3);
            Twin.bounds("19: ahead(1, n, " + what + ")", RICH, (x, n) -> x.ahead(1, n, asked), 0, 200);
            Twin.refusedWith("19: ahead of none", NEW, (x, d) -> x.ahead(d, 5, asked), -1, 0);
            Twin.unchanged("19: ahead(1, 200, " + what + ")", RICH, x -> x.ahead(1, 200, asked));
        }
        for (int dogs = 1; dogs <= 3; dogs++) {
            Twin.bounds("19: ahead of " + dogs, told("half 3;".repeat(dogs)), (x, d) -> x.ahead(d, 5, 0), 0, dogs - 1);
        }
        Twin.bounds("19: ahead(1, 5, what)", RICH, (x, what) -> x.ahead(1, 5, what), 0, 2);
        int[] counts = {3, 1, 2, 4};
        for (int d = 0; d < 4; d++) {
            due("19: COUNT as it is", Twin.of(RICH).ahead(d, 0, 0), counts[d]);
            due("19: BARKS as they are", Twin.of(RICH).ahead(d, 0, 1), d == 1 ? 1 : 0);
            due("19: no bites in none", Twin.of(RICH).ahead(d, 0, 2), 0);
            due("19: COUNT in one", Twin.of(RICH).ahead(d, 1, 0), counts[d] + 1);
        }
        WatchDogs x = Check.told("twice 1;");
        for (int n = 0; n <= 200; n++) {
            due("19: COUNT behind " + n, x.ahead(0, n, 0), n % 2);
            due("19: BARKS behind " + n, x.ahead(0, n, 1), n % 4 / 2);
            due("19: bites in " + n, x.ahead(0, n, 2), n / 4);
        }
    }

    // ---- promise 20

    private static void when() {
        Twin.unchanged("20: when()", RICH, WatchDogs::when);
        due("20: NONE: no DOGS", new WatchDogs().when(), NONE);
        due("20: NONE: fed for ever", Check.told("plain 1;signs 1;").when(), NONE);
        due("20: in this TICK", Check.told("window 2;signs 1;").when(), 0);
        due("20: in the next", Check.told("plain 1;").when(), 1);
        due("20: of several DOGS the first", Check.told("plain 9;half 3;plain 5;twice 4;").when(), 5);
        due("20: twice 20", Check.told("twice 20;").when(), 41);
        // A RESET that is long in coming: half 8 BITES in the 60th TICK when it is FED once in fifteen.
        String slow = "half 8;signs 1 0 0 0 0 0 0 0 0 0 0 0 0 0 0;";
        WatchDogs x = Check.told(slow);
        due("20: in TICK 59", x.when(), 59);
        due("18: none in 59", x.runs(59, 0), 0);
        due("18: one in 60", x.runs(60, 0), 1);
        // The latest JAM, and the longest: FED in TICK 98 for the last time.
        due("20: in TICK 140", Check.told("twice 20;signs 0 0 1;jam 99 40;").when(), 140);
        due("20: FED in TICK 140", Check.told("twice 20;signs 0 0 1;jam 99 39;").when(), NONE);
        due("20: LIMIT 20, STUCK for 21", Check.told("plain 20;signs 1;jam 99 21;").when(), 119);
        due("20: LIMIT 20, STUCK for 20", Check.told("plain 20;signs 1;jam 99 20;").when(), NONE);
    }
}
