/** Each promise of the document: ordinary inputs, the edges that it names, wrong inputs. Values are worked out by hand. */
public final class PromisesTest {
    private static final int BAD = -1, STATE = -2, FULL = -3, NONE = -4;
    private static final int MIN = Integer.MIN_VALUE, MAX = Integer.MAX_VALUE;
    /** Two DOGS; the first BITES in TICK 6, as the JAM holds from TICK 5 on. */
    private static final String PAIR = "plain 2;twice 1;signs 1 2 0;jam 5 4;";

    public static void main(String[] args) {
        newObject();
        feedAndEnd();
        text();
        textFaults();
        ruleDogSignJam();
        alterSetAddCut();
        stickClear();
        bone();
        ticks();
        kindsOfDogs();
        runsAheadWhen();
        needMost();
        kind();
        swap();
        sleep();
        luckMean();
        seeForget();
        kindsLimits();
        ask();
        drift();
        keepBack();
        sheetLay();
        readTorn();
        count();
        Check.finish();
    }

    private static void due(String call, long got, long want) {
        Check.due(call, got, want);
    }

    private static void row(String call, int[] got, int... want) {
        for (int i = 0; i < want.length; i++) {
            Check.due(call + " at " + i, got[i], want[i]);
        }
    }

    private static int[] rules(WatchDogs x) {
        int[] row = new int[9];
        for (int what = 0; what < 9; what++) {
            row[what] = x.rule(what);
        }
        return row;
    }

    private static int[] dog(WatchDogs x, int d) {
        return new int[] {x.dog(d, 0), x.dog(d, 1), x.dog(d, 2), x.dog(d, 3)};
    }

    // Promise 1
    private static void newObject() {
        WatchDogs x = new WatchDogs();
        row("1: rule", rules(x), 0, 0, 0, 0, 0, 0, 0, NONE, 0);
        due("1: dog(0, 0)", x.dog(0, 0), BAD);
        due("1: sign(0)", x.sign(0), BAD);
        due("1: jam(0, 0)", x.jam(0, 0), BAD);
        due("1: fault()", x.fault(), 0);
        due("1: torn()", x.torn(), 0);
        row("1: count", new int[] {x.count(0), x.count(1), x.count(2), x.count(3), x.count(4), x.count(5)}, 0, 0, 0, NONE, 0, 0);
        for (int k = 0; k < 4; k++) {
            due("1: lay(" + k + ", 0, 0)", x.lay(k, 0, 0), -11);
        }
        due("1: when()", x.when(), NONE);
        due("1: ticks(3)", x.ticks(3), 0);
        due("1: rule(3)", x.rule(3), 3);
    }

    // Promises 2, 3
    private static void feedAndEnd() {
        WatchDogs x = new WatchDogs();
        due("2: feed(-1)", x.feed(-1), BAD);
        due("2: feed(128)", x.feed(128), BAD);
        due("2: feed(0)", x.feed(0), 1);
        due("2: feed(127)", x.feed(127), 2);
        for (int i = 3; i <= 160; i++) {
            due("2: feed(32)", x.feed(32), i);
        }
        due("2: feed(32), the 161st", x.feed(32), FULL);
        due("2: feed(128), the 161st", x.feed(128), BAD);
        due("2: count(2)", x.count(2), 160);
        due("3: end(161)", x.end(161), BAD);
        due("3: end(-1)", x.end(-1), BAD);
        due("3: end(160)", x.end(160), 160);
        due("3: end(2)", x.end(2), 160);
        due("3: end(3)", x.end(3), BAD);
        due("3: end(0)", x.end(0), 2);
        due("3: end(0) again", x.end(0), 0);
        for (char c : "jam 1 2; zzz".toCharArray()) {
            x.feed(c);
        }
        x.end(8);
        due("3: text() of what was kept", x.text(), 1);
        due("3: jam(0, 1)", x.jam(0, 1), 2);
        // What is behind the end is not read: a figure, a letter.
        Check.tell(x, "jam 5 55");
        due("3: a NUMBER at the end", Check.tell(x, "jam 5 5"), -17);
        Check.tell(x, "plainn");
        due("3: a NAME at the end", Check.tell(x, "plain"), -15);
    }

    // Promises 4, 5
    private static void text() {
        WatchDogs x = new WatchDogs();
        due("4: text() of nothing", x.text(), 0);
        due("4: three lines", Check.tell(x, "  window07;signs 0 15 08 ; jam99 40;  "), 3);
        due("5: fault()", x.fault(), 0);
        row("4: rule", rules(x), 1, 3, 1, 0, 0, 0, 0, NONE, 0);
        row("4: dog", dog(x, 0), 1, 7, 0, 0);
        row("4: signs", new int[] {x.sign(0), x.sign(1), x.sign(2)}, 0, 15, 8);
        row("4: jam", new int[] {x.jam(0, 0), x.jam(0, 1)}, 99, 40);
        due("4: count(2)", x.count(2), 0);
        due("4: all kinds", Check.tell(x, "half 1;twice 20;window 3;plain 4;jam 0 1;jam 1 1;jam 2 1;jam 3 1;"), 8);
        row("4: rule", rules(x), 4, 0, 4, 0, 0, 0, 1, NONE, 0);
        for (int d = 0; d < 4; d++) {
            due("4: kind of " + d, x.dog(d, 0), 3 - d);
        }
        due("4: sixteen signs", Check.tell(x, "signs 0 1 2 3 4 5 6 7 8 9 10 11 12 13 14 15;"), 1);
        due("4: sign(15)", x.sign(15), 15);
        due("4: no dogs", x.rule(0), 0);

        Check.tell(x, PAIR);
        x.ticks(8);
        x.see(1, 1);
        x.keep(0);
        x.sheet(0, 0, 3);
        due("4: refused", Check.tell(x, "plain 3;plain"), -23);
        due("5: fault()", x.fault(), 2);
        row("4: what was told stays", rules(x), 2, 3, 1, 8, 1, 1, 0, 0, 7);
        row("4: what was told stays", new int[] {x.count(0), x.count(1), x.count(2)}, 1, 1, 0);
        due("4: taken anew", Check.tell(x, PAIR), 4);
        due("5: fault()", x.fault(), 0);
        row("4: all is told anew", rules(x), 2, 3, 1, 0, 0, 0, 0, NONE, 0);
        row("4: all is told anew", dog(x, 0), 0, 2, 0, 0);
        row("4: nothing SEEN, no IMAGES", new int[] {x.count(0), x.count(1), x.back(0)}, 0, 0, STATE);
        due("4: SHEETS stay", x.count(3), 3);
        due("4: empty text takes all away", x.text(), 0);
        due("4: no dogs", x.rule(0), 0);
    }

    private static void faulty(String text, int fault, int place) {
        WatchDogs x = Check.told("plain 5;");
        due("4: text() of \"" + text + "\"", Check.tell(x, text), -10 - place);
        due("5: fault() of \"" + text + "\"", x.fault(), fault);
        due("4: limit stays", x.count(4), 5);
        due("4: one dog stays", x.rule(0), 1);
        due("4: the tape is empty", x.count(2), 0);
    }

    private static void textFaults() {
        faulty("plain 2!", 1, 7);
        faulty("!", 1, 0);
        faulty("Plain 2;", 1, 0);
        faulty("plain\t2;", 1, 5);
        for (char c : "`{/:A\n\u0000\u007f".toCharArray()) {
            faulty("plain 2;" + c, 1, 8);
        }
        faulty("plain 100;", 1, 6);
        faulty("jam 5 007;", 1, 6);
        faulty("plain", 2, 5);
        faulty("plain  ", 2, 7);
        faulty("plain 2", 2, 7);
        faulty("plain ;", 2, 6);
        faulty("plain x;", 2, 6);
        faulty("plain 2 3;", 2, 8);
        faulty("plain 2 half 3;", 2, 8);
        faulty("plai 2;", 2, 0);
        faulty("xlain 2;", 2, 0);
        faulty("az 2;", 2, 0);
        faulty("plainz 2;", 2, 0);
        faulty("plains 2;", 2, 0);
        faulty("windo w 2;", 2, 0);
        faulty("plain 2;;", 2, 8);
        faulty(" 2;", 2, 1);
        faulty("signs;", 2, 5);
        faulty("signs 1 x;", 2, 8);
        faulty("signs 1 2", 2, 9);
        faulty("jam 5;", 2, 5);
        faulty("jam 5 5 5;", 2, 8);
        faulty("plain 0;", 3, 6);
        faulty("half 21;", 3, 5);
        faulty("signs 16;", 3, 6);
        faulty("signs 1 99 100;", 3, 8);
        faulty("jam 0 0;", 3, 6);
        faulty("jam 99 41;", 3, 7);
        faulty("signs 1;signs !", 4, 8);
        faulty("signs 1;plain 2;signs 1;", 4, 16);
        faulty("plain 1;plain 1;plain 1;plain 1; half 0;", 5, 33);
        faulty("jam 1 1;jam 1 1;jam 1 1;jam 1 1;jam!", 5, 32);
        faulty("signs 1 1 1 1 1 1 1 1 1 1 1 1 1 1 1 1 1;", 5, 38);
        faulty("signs 1 1 1 1 1 1 1 1 1 1 1 1 1 1 1 1 16;", 5, 38);
        faulty("signs 1 1 1 1 1 1 1 1 1 1 1 1 1 1 1 1 160;", 1, 38);
        faulty("signs 1 1 1 1 1 1 1 1 1 1 1 1 1 1 1 1", 2, 37);
    }

    // Promises 6 to 9
    private static void ruleDogSignJam() {
        WatchDogs x = Check.told(PAIR);
        x.ticks(5);
        row("6: rule", rules(x), 2, 3, 1, 5, 0, 2, 1, NONE, 0);
        due("6: rule(-1)", x.rule(-1), BAD);
        due("6: rule(9)", x.rule(9), BAD);
        due("6: rule(MAX)", x.rule(MAX), BAD);
        row("7: dog 0", dog(x, 0), 0, 2, 1, 0);
        row("7: dog 1", dog(x, 1), 2, 1, 0, 0);
        due("7: dog(2, 0)", x.dog(2, 0), BAD);
        due("7: dog(-1, 0)", x.dog(-1, 0), BAD);
        due("7: dog(0, 4)", x.dog(0, 4), BAD);
        due("7: dog(0, -1)", x.dog(0, -1), BAD);
        row("8: sign", new int[] {x.sign(0), x.sign(1), x.sign(2), x.sign(3), x.sign(-1)}, 1, 2, 0, BAD, BAD);
        row("9: jam", new int[] {x.jam(0, 0), x.jam(0, 1), x.jam(0, 2), x.jam(0, -1), x.jam(1, 0), x.jam(-1, 0)},
            5, 4, BAD, BAD, BAD, BAD);
        // A second JAM that lies behind FREE holds even when the first does not.
        x.stick(6, 1);
        x.ticks(2);
        row("6: a RESET", rules(x), 2, 3, 2, 7, 1, 0, 0, 0, 7);
        x.stick(7, 1);
        due("6: a JAM from FREE on", x.rule(6), 1);
    }

    // Promises 10 to 13
    private static void alterSetAddCut() {
        WatchDogs x = Check.told("half 20;signs 0 0 0;");
        x.ticks(23);
        row("10: before", dog(x, 0), 3, 20, 2, 1);
        due("10: alter(0, 0, 2)", x.alter(0, 0, 2), 3);
        due("10: alter(0, 1, 1)", x.alter(0, 1, 1), 20);
        row("10: COUNT, BARKS stay", dog(x, 0), 2, 1, 2, 1);
        due("10: alter(0, 0, 4)", x.alter(0, 0, 4), BAD);
        due("10: alter(0, 0, -1)", x.alter(0, 0, -1), BAD);
        due("10: alter(0, 1, 0)", x.alter(0, 1, 0), BAD);
        due("10: alter(0, 1, 21)", x.alter(0, 1, 21), BAD);
        due("10: alter(0, 1, 20)", x.alter(0, 1, 20), 1);
        due("10: alter(0, 2, 1)", x.alter(0, 2, 1), BAD);
        due("10: alter(0, -1, 1)", x.alter(0, -1, 1), BAD);
        due("10: alter(1, 0, 1)", x.alter(1, 0, 1), BAD);
        due("10: alter(-1, 0, 1)", x.alter(-1, 0, 1), BAD);
        row("10: after", dog(x, 0), 2, 20, 2, 1);

        due("11: set(2, 15)", x.set(2, 15), 0);
        due("11: set(2, 0)", x.set(2, 0), 15);
        due("11: set(2, 16)", x.set(2, 16), BAD);
        due("11: set(2, -1)", x.set(2, -1), BAD);
        due("11: set(3, 1)", x.set(3, 1), BAD);
        due("11: set(-1, 1)", x.set(-1, 1), BAD);
        due("11: nothing changed", x.count(5), 0);

        due("12: add(-1)", x.add(-1), BAD);
        due("12: add(16)", x.add(16), BAD);
        for (int n = 4; n <= 16; n++) {
            due("12: add", x.add(n - 1), n);
        }
        due("12: add, the 17th", x.add(0), FULL);
        due("12: add(16), the 17th", x.add(16), BAD);
        due("12: sign(15)", x.sign(15), 15);

        due("13: PLACE", x.rule(5), 2);
        due("13: cut(17)", x.cut(17), BAD);
        due("13: cut(-1)", x.cut(-1), BAD);
        due("13: cut(3)", x.cut(3), 16);
        due("13: PLACE stays", x.rule(5), 2);
        due("13: sign(3)", x.sign(3), BAD);
        due("13: cut(4)", x.cut(4), BAD);
        due("13: cut(2)", x.cut(2), 3);
        due("13: PLACE is 0", x.rule(5), 0);
        due("13: cut(0)", x.cut(0), 2);
        due("13: no SIGNS", x.rule(1), 0);
        due("13: ticks(1)", x.ticks(1), 0);
        due("13: PLACE is 0", x.rule(5), 0);
        x = Check.told("plain 2;signs 1;");
        x.cut(0);
        due("13: a SIGN that was cut feeds nobody", x.when(), 2);
    }

    // Promises 14, 15
    private static void stickClear() {
        WatchDogs x = new WatchDogs();
        due("14: stick(-1, 1)", x.stick(-1, 1), BAD);
        due("14: stick(100, 1)", x.stick(100, 1), BAD);
        due("14: stick(0, 0)", x.stick(0, 0), BAD);
        due("14: stick(0, 41)", x.stick(0, 41), BAD);
        due("14: stick(0, 1)", x.stick(0, 1), 1);
        due("14: stick(99, 40)", x.stick(99, 40), 2);
        due("14: stick(3, 2)", x.stick(3, 2), 3);
        due("14: stick(3, 2)", x.stick(3, 2), 4);
        due("14: stick, the 5th", x.stick(3, 2), FULL);
        due("14: stick(100, 1), the 5th", x.stick(100, 1), BAD);
        row("14: behind all others", new int[] {x.jam(1, 0), x.jam(1, 1), x.jam(3, 0)}, 99, 40, 3);
        due("15: clear(5)", x.clear(5), BAD);
        due("15: clear(-1)", x.clear(-1), BAD);
        due("15: clear(2)", x.clear(2), 4);
        due("15: clear(3)", x.clear(3), BAD);
        due("15: jam(2, 0)", x.jam(2, 0), BAD);
        due("15: jam(1, 0)", x.jam(1, 0), 99);
        due("15: STUCK", x.rule(6), 1);
        due("15: clear(0)", x.clear(0), 2);
        due("15: not STUCK", x.rule(6), 0);
    }

    // Promise 16
    private static void bone() {
        WatchDogs x = Check.told("window 5;twice 2;half 9;plain 9;signs 0 0;jam 4 9;");
        due("16: bone(4)", x.bone(4), BAD);
        due("16: bone(-1)", x.bone(-1), BAD);
        x.ticks(3);
        row("16: twice has barked", dog(x, 1), 2, 2, 0, 1);
        due("16: bone(1)", x.bone(1), 0);
        row("16: twice", dog(x, 1), 2, 2, 0, 0);
        due("16: bone(2)", x.bone(2), 0);
        row("16: half", dog(x, 2), 3, 9, 1, 0);
        due("16: bone(3)", x.bone(3), 0);
        row("16: plain", dog(x, 3), 0, 9, 0, 0);
        due("16: window at 3", x.bone(0), 0);
        row("16: window", dog(x, 0), 1, 5, 0, 0);
        x.ticks(2);
        row("16: a jam holds", rules(x), 4, 2, 1, 5, 0, 0, 1, NONE, 0);
        x.alter(0, 1, 4);
        due("16: window at 2 of 4", x.bone(0), 0);
        x.ticks(1);
        due("16: window at 1 of 4", x.bone(0), 1);
        row("16: a RESET, FREE is TICK", rules(x), 4, 2, 1, 6, 1, 0, 0, 0, 6);
        row("16: all COUNTS, BARKS are 0", dog(x, 1), 2, 2, 0, 0);
        row("16: all COUNTS, BARKS are 0", dog(x, 2), 3, 9, 0, 0);
        x.stick(6, 1);
        due("16: a JAM at FREE holds", x.rule(6), 1);
        x.alter(0, 1, 1);
        due("16: half of 1 is 0", x.bone(0), 0);
        x.alter(0, 1, 2);
        due("16: half of 2 is 1", x.bone(0), 1);
        due("16: RESETS", x.rule(4), 2);
    }

    // Promise 17
    private static void ticks() {
        WatchDogs x = Check.told(PAIR);
        due("17: ticks(-1)", x.ticks(-1), BAD);
        due("17: ticks(101)", x.ticks(101), BAD);
        due("17: ticks(0)", x.ticks(0), 0);
        due("17: ticks(6)", x.ticks(6), 0);
        row("17: before the bite", rules(x), 2, 3, 1, 6, 0, 2, 1, NONE, 0);
        due("17: ticks(1)", x.ticks(1), 1);
        row("17: behind it", rules(x), 2, 3, 1, 7, 1, 0, 0, 0, 7);
        row("17: COUNTS, BARKS 0", dog(x, 1), 2, 1, 0, 0);

        x = Check.told("plain 1;");
        for (int i = 1; i <= 19; i++) {
            due("17: ticks(100)", x.ticks(100), 50);
            due("17: RESETS", x.rule(4), 50 * i);
        }
        due("17: ticks(100), RESETS beyond 999", x.ticks(100), 50);
        due("17: RESETS are 999 at most", x.rule(4), 999);
        due("17: runs(200, 0) beyond 999", x.runs(200, 0), 100);
        for (int i = 20; i < 99; i++) {
            x.ticks(100);
        }
        due("17: TICK", x.rule(3), 9900);
        due("17: ticks(100) to 10000", x.ticks(100), FULL);
        due("17: ticks(101)", x.ticks(101), BAD);
        due("17: nothing changed", x.rule(3), 9900);
        due("17: ticks(99)", x.ticks(99), 49);
        due("17: ticks(1)", x.ticks(1), FULL);
        due("17: ticks(0)", x.ticks(0), 0);
        due("17: BY TICKS goes beyond", x.when(), 0);
        due("17: BY TICKS goes beyond", x.runs(3, 0), 2);

        // Two BITE at once: the first by order is LAST, whether FED or LATE; bits of no DOG count for nothing.
        x = Check.told("plain 1;window 6;signs 12 14;");
        due("17: two bite", x.ticks(2), 1);
        due("17: LAST", x.rule(7), 0);
        due("17: both bite", x.ahead(1, 2, 2) + x.ahead(0, 2, 2), 2);
        x = Check.told("plain 9;window 6;signs 14;");
        due("17: window is fed too soon each time", x.ticks(5), 5);
        row("17: rule", rules(x), 2, 1, 0, 5, 5, 0, 0, 1, 5);
    }

    /** Terms: FED and LATE by KIND, as TICKS show them. */
    private static void kindsOfDogs() {
        WatchDogs x = Check.told("plain 3;signs 0 0 0 1;");
        due("terms: plain is fed in time", x.when(), NONE);
        x.alter(0, 1, 2);
        due("terms: plain is late", x.when(), 2);
        x = Check.told("window 7;signs 0 0 0 1;");
        due("terms: window at its half, down", x.when(), NONE);
        x.alter(0, 1, 8);
        due("terms: window below its half", x.when(), 3);
        x.alter(0, 1, 2);
        due("terms: window late", x.when(), 2);
        x = Check.told("twice 2;signs 0 0 0 1;");
        due("terms: twice barks and is fed", x.when(), NONE);
        due("terms: barks in 8", x.runs(8, 2), 2);
        x.set(3, 0);
        due("terms: twice bites at the second bark", x.when(), 5);
        x = Check.told("half 5;signs 0 0 0 1;");
        // COUNT: 1 2 3 1 2 3 4 2 3 4 5 2 ..
        row("terms: half", new int[] {x.ahead(0, 3, 0), x.ahead(0, 4, 0), x.ahead(0, 8, 0), x.ahead(0, 12, 0)}, 3, 1, 2, 2);
        due("terms: half never bites", x.when(), NONE);
        x.alter(0, 1, 4);
        // TICK 10 barks; in TICK 11 it is FED.
        due("terms: half barks", x.ahead(0, 11, 1), 1);
        due("terms: COUNT is 0 behind a bark", x.ahead(0, 11, 0), 0);
        due("terms: half is fed, BARKS is 0", x.ahead(0, 12, 1), 0);
        // A KIND that is altered keeps what it has: at its next bark it BITES.
        x = Check.told("twice 2;");
        x.ticks(3);
        x.alter(0, 0, 0);
        due("terms: BARKS stay with a plain one", x.bone(0) + x.dog(0, 3), 1);
        x.alter(0, 0, 3);
        due("terms: the second bark", x.when(), 2);
        // A COUNT above a lowered LIMIT: late in the next TICK.
        x = Check.told("plain 9;");
        x.ticks(7);
        x.alter(0, 1, 3);
        due("terms: late at once", x.when(), 0);
        // JAMS: the first TICK, the last one, two over one another.
        x = Check.told("plain 20;signs 1;jam 2 3;jam 4 2;jam 9 1;");
        row("terms: STUCK", new int[] {x.runs(2, 1), x.runs(3, 1), x.runs(5, 1), x.runs(6, 1), x.runs(9, 1), x.runs(10, 1),
            x.runs(200, 1)}, 0, 1, 3, 4, 4, 5, 5);
    }

    // Promises 18 to 20
    private static void runsAheadWhen() {
        WatchDogs x = Check.told(PAIR);
        row("18: runs(9, what)", new int[] {x.runs(9, 0), x.runs(9, 1), x.runs(9, 2), x.runs(9, 3)}, 1, 2, 2, 6);
        row("18: runs(0, what)", new int[] {x.runs(0, 0), x.runs(0, 1), x.runs(0, 2), x.runs(0, 3)}, 0, 0, 0, 0);
        row("18: wrong", new int[] {x.runs(-1, 0), x.runs(201, 0), x.runs(1, -1), x.runs(1, 4), x.runs(MAX, 0), x.runs(MIN, 0)},
            BAD, BAD, BAD, BAD, BAD, BAD);
        due("18: nothing is changed", x.rule(3), 0);
        WatchDogs y = Check.told("twice 1;half 1;plain 20;signs 3 0 0 0 0;");
        // Both bark in TICKS 2 and 4 and bite in TICK 4.
        row("18: the bark that bites is one", new int[] {y.runs(4, 2), y.runs(5, 2), y.runs(5, 0), y.runs(6, 3)}, 2, 4, 1, 4);
        due("18: 200 of them", y.runs(200, 0), 40);

        row("19: ahead(0, n, 0)", new int[] {x.ahead(0, 0, 0), x.ahead(0, 1, 0), x.ahead(0, 3, 0), x.ahead(0, 6, 0),
            x.ahead(0, 7, 0)}, 0, 0, 2, 2, 0);
        row("19: ahead(1, n, 1)", new int[] {x.ahead(1, 3, 1), x.ahead(1, 4, 1), x.ahead(1, 5, 1)}, 0, 1, 0);
        row("19: ahead(d, 7, 2)", new int[] {x.ahead(0, 6, 2), x.ahead(0, 7, 2), x.ahead(1, 7, 2)}, 0, 1, 0);
        row("19: both bite", new int[] {y.ahead(0, 200, 2), y.ahead(1, 200, 2), y.ahead(2, 200, 2)}, 40, 40, 0);
        row("19: wrong", new int[] {x.ahead(2, 1, 0), x.ahead(-1, 1, 0), x.ahead(0, -1, 0), x.ahead(0, 201, 0), x.ahead(0, 1, 3),
            x.ahead(0, 1, -1)}, BAD, BAD, BAD, BAD, BAD, BAD);
        due("19: nothing is changed", x.rule(3), 0);

        due("20: when()", x.when(), 6);
        x.ticks(6);
        due("20: when() in this TICK", x.when(), 0);
        x.ticks(1);
        due("20: when() never", x.when(), NONE);
        due("20: nothing is changed", x.rule(3), 7);
        // No SIGNS: half 20 bites in TICK 41 for the first time.
        due("20: when() of half 20", Check.told("half 20;").when(), 41);
        x = Check.told("plain 20;signs 1;jam 99 40;");
        due("20: when() by a late jam", x.when(), 119);
        x.ticks(80);
        due("20: when() from TICK 80", x.when(), 39);
    }

    // Promises 21, 22
    private static void needMost() {
        WatchDogs x = Check.told(PAIR);
        row("21: need", new int[] {x.need(0, 9), x.need(1, 9), x.need(0, 0), x.need(0, 3), x.need(0, 200)}, 5, 1, 1, 2, 5);
        row("22: most", new int[] {x.most(0, 9), x.most(1, 9), x.most(0, 0), x.most(0, 3), x.most(0, 200)}, 4, NONE, NONE, 1, 4);
        row("21: wrong", new int[] {x.need(2, 1), x.need(-1, 1), x.need(0, -1), x.need(0, 201)}, BAD, BAD, BAD, BAD);
        row("22: wrong", new int[] {x.most(2, 1), x.most(-1, 1), x.most(0, -1), x.most(0, 201)}, BAD, BAD, BAD, BAD);
        x = Check.told("half 20;");
        row("21: by none", new int[] {x.need(0, 42), x.need(0, 41)}, NONE, 20);
        row("22: half", new int[] {x.most(0, 42), x.most(0, 41), x.most(0, 4), x.most(0, 3)}, 20, 19, 1, NONE);
        // A window bites by a great LIMIT as well as by a small one: it is fed at COUNT 3.
        x = Check.told("window 9;signs 0 0 0 1;");
        row("21, 22: window", new int[] {x.need(0, 200), x.most(0, 200), x.most(0, 3)}, 3, 20, 2);
        due("21: nothing is changed", x.dog(0, 1), 9);
        // COUNT stays as it is.
        x = Check.told("plain 20;");
        x.ticks(5);
        row("21, 22: from a COUNT", new int[] {x.need(0, 1), x.most(0, 1)}, 6, 5);
    }

    // Promise 23
    private static void kind() {
        WatchDogs x = Check.told("plain 2;");
        // In 6 TICKS: plain and window bite in 2, 5; twice and half bark in 2, bite in 5.
        row("23: kind(0, 6, what)", new int[] {x.kind(0, 6, 0), x.kind(0, 6, 1)}, 2, 1);
        row("23: kind(0, 2, what)", new int[] {x.kind(0, 2, 0), x.kind(0, 2, 1)}, 0, 0);
        row("23: kind(0, 0, what)", new int[] {x.kind(0, 0, 0), x.kind(0, 0, 1)}, 0, 0);
        row("23: kind(0, 3, what)", new int[] {x.kind(0, 3, 0), x.kind(0, 3, 1)}, 2, 0);
        row("23: kind(0, 200, what)", new int[] {x.kind(0, 200, 0), x.kind(0, 200, 1)}, 2, 33);
        row("23: wrong", new int[] {x.kind(1, 1, 0), x.kind(-1, 1, 0), x.kind(0, -1, 0), x.kind(0, 201, 0), x.kind(0, 1, 2),
            x.kind(0, 1, -1)}, BAD, BAD, BAD, BAD, BAD, BAD);
        due("23: nothing is changed", x.dog(0, 0), 0);
        // Fed at COUNT 0: a window bites at once, the others never.
        x = Check.told("window 9;signs 1;");
        row("23: of several the first", new int[] {x.kind(0, 50, 0), x.kind(0, 50, 1)}, 0, 0);
        // Half bites in TICK 7, so that it is FED once more ahead of the JAM; twice bites in TICKS 8, 14, plain in 5, 11.
        x = Check.told("plain 2;signs 0 0 1 0 0 0 0;jam 11 12;");
        row("23: half is best", new int[] {x.kind(0, 15, 0), x.kind(0, 15, 1)}, 3, 1);
        // One DOG that bites each TICK: no kind of the other one helps, the first is told.
        x = Check.told("twice 9;window 9;signs 2;");
        row("23: no fewer", new int[] {x.kind(0, 7, 0), x.kind(0, 7, 1)}, 0, 7);
    }

    // Promise 24
    private static void swap() {
        WatchDogs x = Check.told("plain 2;signs 1 1 0 0 0;");
        // COUNT: 0 0 1 2 3: it bites in TICK 4. 0 1 1 0 0 is the first that does not.
        row("24: swap(5, what)", new int[] {x.swap(5, 0), x.swap(5, 1)}, 2, 0);
        // But then the next round begins with a third 0: 0 1 0 1 0 is the first that never bites.
        row("24: swap(200, what)", new int[] {x.swap(200, 0), x.swap(200, 1)}, 3, 0);
        row("24: not fewer", new int[] {x.swap(4, 0), x.swap(4, 1), x.swap(0, 0)}, NONE, NONE, NONE);
        row("24: wrong", new int[] {x.swap(-1, 0), x.swap(201, 0), x.swap(5, 2), x.swap(5, -1)}, BAD, BAD, BAD, BAD);
        row("24: nothing is changed", new int[] {x.sign(0), x.sign(2), x.sign(4)}, 1, 0, 0);
        due("24: no SIGNS", Check.told("plain 1;").swap(9, 0), NONE);
        due("24: one SIGN", Check.told("plain 1;signs 0;").swap(9, 0), NONE);
        due("24: no DOGS", Check.told("signs 0 1;").swap(9, 0), NONE);
        // The best is not the first that is better: 1 and 3 leave one RESET, 1 and 4 (0 1 0 1 0 1) none.
        x = Check.told("plain 1;signs 0 0 0 1 1 1;");
        row("24: fewest", new int[] {x.swap(6, 0), x.swap(6, 1), x.swap(200, 0)}, 104, 0, 104);
        // Fewer, but not none: five 0s can not be fed by one 1.
        x = Check.told("plain 1;signs 0 0 0 0 0 1;");
        row("24: fewer", new int[] {x.swap(5, 0), x.swap(5, 1)}, 5, 1);
        x = Check.told("plain 1;signs 1 1 1 1 1 1 1 1 1 1 1 1 1 0 0 1;");
        row("24: sixteen SIGNS", new int[] {x.swap(16, 0), x.swap(16, 1)}, 13, 0);
        // The last two alone: a second DOG that holds all others where they are.
        x = Check.told("plain 1;window 2;signs 1 2 1 2 1 2 1 2 1 2 1 2 1 2 2 1;");
        row("24: the last two", new int[] {x.swap(16, 0), x.swap(16, 1)}, 1415, 0);
        // PLACE stays: from the SIGN at 3 on.
        x = Check.told("plain 2;signs 1 1 0 0 0;");
        x.ticks(3);
        row("24: from PLACE on", new int[] {x.swap(2, 0), x.swap(2, 1)}, 3, 0);
    }

    // Promise 25
    private static void sleep() {
        WatchDogs x = Check.told(PAIR);
        row("25: sleep", new int[] {x.sleep(8, 0), x.sleep(8, 1), x.sleep(9, 0), x.sleep(9, 1), x.sleep(0, 0)},
            0, 0, NONE, NONE, NONE);
        row("25: wrong", new int[] {x.sleep(-1, 0), x.sleep(201, 0), x.sleep(8, 2), x.sleep(8, -1)}, BAD, BAD, BAD, BAD);
        due("25: no DOGS", new WatchDogs().sleep(9, 0), NONE);
        // The window bites each TICK, the plain one each second one if it comes to that.
        x = Check.told("plain 1;plain 9;window 8;signs 4;");
        row("25: a window sleeps, not FED", new int[] {x.sleep(8, 0), x.sleep(8, 1)}, 2, 4);
        x = Check.told("plain 3;plain 3;half 20;");
        row("25: none alone helps", new int[] {x.sleep(8, 0), x.sleep(8, 1)}, NONE, NONE);
        x = Check.told("plain 9;plain 3;half 20;");
        row("25: of several", new int[] {x.sleep(8, 0), x.sleep(8, 1)}, 1, 0);
        // Each of two is as good asleep as the other: the first.
        x = Check.told("window 8;window 8;signs 1 2;");
        row("25: the first of several", new int[] {x.sleep(6, 0), x.sleep(6, 1)}, 0, 3);
    }

    private static void fraction(String of, WatchDogs x, int v, int n, long[] lucky, long[] mean) {
        due(of + ": luck(" + v + ", " + n + ", 0)", x.luck(v, n, 0), lucky[0]);
        due(of + ": luck(" + v + ", " + n + ", 1)", x.luck(v, n, 1), lucky[1]);
        due(of + ": mean(" + v + ", " + n + ", 0)", x.mean(v, n, 0), mean[0]);
        due(of + ": mean(" + v + ", " + n + ", 1)", x.mean(v, n, 1), mean[1]);
    }

    private static long[] of(long above, long below) {
        return new long[] {above, below};
    }

    // Promises 26, 27
    private static void luckMean() {
        WatchDogs x = Check.told("plain 1;signs 1;");
        // It bites if two TICKS one behind another are lost.
        fraction("26, 27", x, 3, 2, of(91, 100), of(9, 100));
        fraction("26, 27", x, 0, 8, of(1, 1), of(0, 1));
        fraction("26, 27", x, 10, 8, of(0, 1), of(4, 1));
        fraction("26, 27", x, 10, 1, of(1, 1), of(0, 1));
        fraction("26, 27", x, 5, 0, of(1, 1), of(0, 1));
        // 5 of 8 ways of three TICKS have no two losses together; 3 ways have one RESET.
        fraction("26, 27", x, 5, 3, of(5, 8), of(3, 8));
        // 55 of 256 ways of eight.
        due("26: luck(5, 8, 0)", x.luck(5, 8, 0), 55);
        due("26: luck(5, 8, 1)", x.luck(5, 8, 1), 256);
        row("26: wrong", new int[] {(int) x.luck(-1, 1, 0), (int) x.luck(11, 1, 0), (int) x.luck(1, -1, 0), (int) x.luck(1, 9, 0),
            (int) x.luck(1, 1, 2), (int) x.luck(1, 1, -1)}, BAD, BAD, BAD, BAD, BAD, BAD);
        row("27: wrong", new int[] {(int) x.mean(-1, 1, 0), (int) x.mean(11, 1, 0), (int) x.mean(1, -1, 0), (int) x.mean(1, 9, 0),
            (int) x.mean(1, 1, 2), (int) x.mean(1, 1, -1)}, BAD, BAD, BAD, BAD, BAD, BAD);
        due("26: nothing is changed", x.rule(3), 0);
        // PLACE goes on though the SIGN is lost: the second SIGN feeds in TICK 1, or is lost by itself.
        x = Check.told("plain 1;signs 0 1;");
        fraction("26, 27: PLACE goes on", x, 2, 2, of(4, 5), of(1, 5));
        // A window that is fed too soon bites, unless the SIGN is lost.
        x = Check.told("window 9;signs 1;");
        fraction("26, 27: window", x, 7, 2, of(49, 100), of(3, 5));
        // STUCK: no SIGN is done, none is lost; no SIGNS: likewise.
        x = Check.told("plain 1;signs 1;jam 0 2;");
        fraction("26, 27: STUCK", x, 4, 2, of(0, 1), of(1, 1));
        x = Check.told("plain 2;");
        fraction("26, 27: no SIGNS", x, 4, 8, of(0, 1), of(2, 1));
        fraction("26, 27: no DOGS", new WatchDogs(), 4, 8, of(1, 1), of(0, 1));
    }

    // Promises 28, 29
    private static void seeForget() {
        WatchDogs x = new WatchDogs();
        row("28: wrong", new int[] {x.see(-1, 0), x.see(41, 0), x.see(0, 2), x.see(0, -1)}, BAD, BAD, BAD, BAD);
        for (int i = 1; i <= 6; i++) {
            due("28: see", x.see(i == 1 ? 0 : 40, i % 2), i);
        }
        due("28: see, the 7th", x.see(1, 0), FULL);
        due("28: see(41, 0), the 7th", x.see(41, 0), BAD);
        due("28: SEEN", x.count(0), 6);
        row("29: wrong", new int[] {x.forget(-1), x.forget(7)}, BAD, BAD);
        due("29: forget(2)", x.forget(2), 6);
        due("29: forget(3)", x.forget(3), BAD);
        due("29: SEEN", x.count(0), 2);
        due("28: see", x.see(3, 0), 3);
        due("29: forget(3)", x.forget(3), 3);
        due("29: forget(0)", x.forget(0), 3);
    }

    // Promises 30, 31
    private static void kindsLimits() {
        WatchDogs x = Check.told("plain 2;plain 20;");
        due("30: nothing SEEN", x.kinds(0), 15);
        due("31: nothing SEEN", x.limits(0), 2097150);
        x.see(2, 1);
        due("30: kinds(0)", x.kinds(0), 3);
        due("31: limits(0)", x.limits(0), 1 << 2);
        due("31: by another's bite all are as SEEN", x.limits(1), 2097150 - 2);
        x.forget(0);
        x.see(2, 0);
        due("30: kinds(0)", x.kinds(0), 12);
        due("31: limits(0)", x.limits(0), 2097150 - 4);
        x.see(5, 1);
        // LIMIT 1 bites in TICKS 1, 3, 5; LIMIT 5 in TICK 5.
        due("31: limits(0)", x.limits(0), 1 << 1 | 1 << 5);
        due("30: kinds(0)", x.kinds(0), 12);
        x.see(5, 0);
        due("30: what can not be", x.kinds(0), 0);
        due("31: what can not be", x.limits(0), 0);
        row("30, 31: wrong", new int[] {x.kinds(2), x.kinds(-1), x.limits(2), x.limits(-1)}, BAD, BAD, BAD, BAD);
        due("30: nothing is changed", x.rule(3) + x.dog(0, 0), 0);
        // SEEN is from now on, whenever now is; TICK 40 is the last.
        x = Check.told("half 20;");
        x.ticks(1);
        x.see(40, 1);
        due("31: limits(0) in TICK 40", x.limits(0) >> 20 & 1, 1);
        x.ticks(1);
        due("31: limits(0) a TICK later", x.limits(0) >> 20 & 1, 0);
        due("28: SEEN stays", x.count(0), 1);
        x = Check.told("plain 1;plain 1;plain 1;plain 1;");
        x.see(0, 1);
        due("31: in TICK 0 there is none", x.limits(0), 0);
        x.ticks(1);
        due("31: in TICK 0 there is one", x.limits(0), 2097150);
        for (int i = 1; i < 6; i++) {
            x.see(i, i % 2 == 0 ? 1 : 0);
        }
        due("30: six SEEN", x.kinds(3), 15);
    }

    // Promise 32
    private static void ask() {
        WatchDogs x = Check.told("plain 2;");
        // LIMIT L bites in TICKS k (L + 1) - 1: in TICK t by all LIMITS for which L + 1 divides t + 1 (L + 1 in 2 .. 21).
        // TICK 35: 36 has 2 3 4 6 9 12 18 in 2 .. 21, seven of twenty; TICK 23: 24 has 2 3 4 6 8 12; the most up to 41 is 36.
        row("32: ask", new int[] {x.ask(0, 0), x.ask(0, 1)}, 35, 13);
        x.see(35, 0);
        // 13 are left: L + 1 in 5 7 8 10 11 13 14 15 16 17 19 20 21. TICK 39: 40 has 5 8 10 20.
        row("32: then", new int[] {x.ask(0, 0), x.ask(0, 1)}, 39, 9);
        x.forget(0);
        x.see(35, 1);
        // 2 3 4 6 9 12 18 are left. TICK 5: 6 has 2 3 6: three bite, four not; TICK 7: 8 has 2 4; 11: 2 3 4 6 12.
        row("32: then", new int[] {x.ask(0, 0), x.ask(0, 1)}, 5, 4);
        row("32: wrong", new int[] {x.ask(1, 0), x.ask(-1, 0), x.ask(0, 2), x.ask(0, -1)}, BAD, BAD, BAD, BAD);
        x.forget(0);
        x.see(1, 1);
        due("32: one is left", x.limits(0), 2);
        row("32: one is left", new int[] {x.ask(0, 0), x.ask(0, 1)}, NONE, NONE);
        x.see(1, 0);
        row("32: none is left", new int[] {x.ask(0, 0), x.ask(0, 1)}, NONE, NONE);
        // COUNT 9: in this TICK the LIMITS 1 to 9 bite, the other eleven do not.
        x = Check.told("plain 20;");
        x.ticks(9);
        row("32: in this TICK", new int[] {x.ask(0, 0), x.ask(0, 1)}, 0, 11);
        // STUCK from TICK 39 on: up to TICK 40 only LIMIT 1 bites.
        x = Check.told("plain 5;signs 1;jam 39 40;");
        row("32: in TICK 40", new int[] {x.ask(0, 0), x.ask(0, 1)}, 40, 19);
        x.see(40, 0);
        due("32: none told apart", x.ask(0, 0), NONE);
        x = Check.told("plain 2;signs 1;");
        row("32: it never bites", new int[] {x.ask(0, 0), x.ask(0, 1)}, NONE, NONE);
    }

    // Promise 33
    private static void drift() {
        WatchDogs x = Check.told(PAIR);
        row("33: drift", new int[] {x.drift(7, 90, 0), x.drift(7, 90, 1)}, 11, 0);
        row("33: wrong", new int[] {x.drift(7, 0, 0), x.drift(7, 201, 0), x.drift(7, 1, 2), x.drift(7, 1, -1)}, BAD, BAD, BAD, BAD);
        due("33: nothing is changed", x.rule(3), 0);
        WatchDogs none = Check.told("signs 1;");
        due("33: no DOGS", none.drift(7, 1, 0), STATE);
        due("33: no DOGS, wrong", none.drift(7, 0, 0), BAD);
        // Seed 0: 12345 has no bits from 16 on (SIGN 0); then 12345 * 1103515245 + 12345 wraps to -1043980748,
        // bits 16 on are 16838 + 32768: SIGN 16838 modulo 16, 6.
        WatchDogs y = Check.told("plain 9;plain 9;plain 9;plain 9;");
        due("33: one TICK, SIGN 0", y.drift(0, 1, 1), 4);
        due("33: two TICKS, SIGN 6", y.drift(0, 2, 1), 4);
        y.add(15);
        due("33: in place of the SIGN at PLACE", y.drift(0, 1, 1), 4);
        y.stick(1, 1);
        due("33: not, if it is STUCK", y.drift(0, 2, 1), 8);
        due("33: any seed", y.drift(MIN, 200, 0), y.drift(MIN, 200, 0));
        seedsByHand();
        // From now on: COUNT as it is.
        WatchDogs z = Check.told("plain 9;");
        z.ticks(4);
        due("33: from now on", z.drift(0, 1, 1), 5);
    }

    /** One plain DOG of LIMIT 1, followed through 200 TICKS of a seed without the class. */
    private static void seedsByHand() {
        for (int seed : new int[] {0, 1, -1, 7, 123456789, MIN, MAX}) {
            WatchDogs x = Check.told("plain 1;signs 1 1 1;");
            int state = seed;
            int hungry = 0;
            int resets = 0;
            for (int t = 1; t <= 200; t++) {
                state = state * 1103515245 + 12345;
                hungry = (state >> 16 & 1) == 1 ? 0 : hungry + 1;
                if (hungry > 1) {
                    hungry = 0;
                    resets++;
                }
                if (t % 20 == 0) {
                    due("33: drift(" + seed + ", " + t + ", 0)", x.drift(seed, t, 0), resets);
                    due("33: drift(" + seed + ", " + t + ", 1)", x.drift(seed, t, 1), hungry);
                }
            }
        }
    }

    // Promises 34, 35
    private static void keepBack() {
        WatchDogs x = Check.told(PAIR);
        row("34, 35: wrong", new int[] {x.keep(-1), x.keep(2), x.back(-1), x.back(2)}, BAD, BAD, BAD, BAD);
        row("35: there is none", new int[] {x.back(0), x.back(1)}, STATE, STATE);
        x.ticks(8);
        x.see(3, 1);
        x.see(4, 0);
        due("34: keep(0)", x.keep(0), 0);
        due("34: keep(0) again", x.keep(0), 1);
        due("34: IMAGES", x.count(1), 1);
        int[] rules = rules(x);
        x.ticks(20);
        x.alter(0, 0, 1);
        x.alter(0, 1, 20);
        x.alter(1, 0, 3);
        x.set(0, 9);
        x.add(9);
        x.clear(0);
        x.stick(50, 7);
        x.forget(1);
        x.bone(0);
        due("34: keep(1)", x.keep(1), 0);
        due("34: IMAGES", x.count(1), 2);
        due("35: back(0)", x.back(0), 8);
        row("35: all is as it was", rules(x), rules);
        row("35: dog 0", dog(x, 0), 0, 2, 0, 0);
        row("35: dog 1", dog(x, 1), 2, 1, 1, 0);
        row("35: signs, jams, SEEN", new int[] {x.sign(0), x.sign(3), x.jam(0, 0), x.jam(0, 1), x.count(0)}, 1, BAD, 5, 4, 2);
        due("35: LIMITS as SEEN", x.limits(0), 0);
        x.ticks(1);
        due("35: the IMAGE stays", x.back(0), 8);
        due("35: back(1)", x.back(1), 28);
        row("35: as kept", new int[] {x.sign(0), x.sign(3), x.jam(0, 0), x.dog(0, 1), x.dog(1, 0), x.count(0)}, 9, 9, 50, 20, 3, 1);
        due("35: IMAGES stay", x.count(1), 2);
        x = Check.told("plain 2;");
        x.see(2, 1);
        x.keep(0);
        x.forget(0);
        x.see(3, 0);
        x.back(0);
        due("35: SEEN as they were", x.limits(0), 1 << 2);
    }

    // Promises 36, 37
    private static void sheetLay() {
        WatchDogs x = new WatchDogs();
        row("36: wrong", new int[] {x.sheet(-1, 0, 1), x.sheet(4, 0, 1), x.sheet(0, -1, 1), x.sheet(0, 3, 1), x.sheet(0, 0, 41),
            x.sheet(0, 0, MAX), x.sheet(4, 0, -1), x.sheet(0, 3, -1)}, BAD, BAD, BAD, BAD, BAD, BAD, BAD, BAD);
        row("36: below 0", new int[] {x.sheet(0, 0, -1), x.sheet(3, 2, MIN)}, -14, -14);
        due("36: nothing still", x.count(3), NONE);
        due("36: no CELLS", x.sheet(0, 0, 0), 1);
        due("36: CELLS", x.count(3), 0);
        due("37: no CELLS", x.lay(0, 0, 1), -12);
        due("36: forty", x.sheet(0, 2, 40), 1);
        row("37: edges", new int[] {x.lay(0, 0, 1), x.lay(0, 39, 1), x.lay(0, 40, 1), x.lay(0, -1, 1), x.lay(0, MAX, 1),
            x.lay(0, MIN, 1)}, 1, 1, -12, -12, -12, -12);
        due("36: below 0 keeps it", x.sheet(0, 1, -1), -14);
        due("36: CELLS", x.count(3), 40);
        row("37: wrong", new int[] {x.lay(-1, 0, 1), x.lay(4, 0, 1), x.lay(1, 0, 1), x.lay(1, -1, 1)}, BAD, BAD, -11, -11);
        // Lowest bits: 256 + 3 is 3 in a row of BYTES, 65536 + 3 in one of SHORTS.
        x.add(0);
        x.sheet(1, 0, 2);
        x.sheet(2, 1, 2);
        x.sheet(3, 2, 2);
        x.lay(1, 1, 259);
        due("37: BYTES", x.read(1, 0, 0, 1) * 100 + x.sign(0), 103);
        x.lay(2, 1, 65540);
        due("37: SHORTS", x.read(2, 1, 0, 1) * 100 + x.sign(0), 104);
        x.lay(2, 1, 261);
        due("37: SHORTS are longer", x.read(2, 1, 0, 1), -20);
        x.lay(3, 1, 65540);
        due("37: INTS are longer", x.read(3, 2, 0, 1), -20);
        x.lay(1, 1, 255);
        due("37: BYTES have a sign", x.read(1, 0, 0, 1), -20);
        x.lay(1, 0, 256);
        x.lay(1, 1, -250);
        due("37: from below 0", x.read(1, 0, 0, 1) * 100 + x.sign(0), 106);
        x.sheet(1, 0, 2);
        due("36: a new row is 0", x.read(1, 0, 0, 1) * 100 + x.sign(0), 100);
    }

    private static void lay(WatchDogs x, int k, int... cells) {
        for (int i = 0; i < cells.length; i++) {
            due("37: lay", x.lay(k, i, cells[i]), 1);
        }
    }

    // Promises 38, 39
    private static void readTorn() {
        WatchDogs x = Check.told("signs 1 2 3;");
        x.sheet(0, 1, 7);
        lay(x, 0, 2, 15, 0, 9, 2, 14, 1);
        row("38: wrong", new int[] {x.read(-1, 1, 0, 1), x.read(4, 1, 0, 1), x.read(0, -1, 0, 1), x.read(0, 3, 0, 1),
            x.read(0, 1, 0, -1), x.read(0, 1, 0, 21)}, BAD, BAD, BAD, BAD, BAD, BAD);
        due("38: two", x.read(0, 1, 0, 2), 2);
        row("38: they came", new int[] {x.sign(0), x.sign(1), x.sign(2), x.torn()}, 9, 2, 15, 0);
        due("38: none asked", x.read(0, 1, 0, 0), 0);
        due("38: three, one behind another", x.read(0, 1, 0, 3), 3);
        due("38: the later one stands", x.sign(2), 14);
        x.set(2, 0);
        due("38: a fourth is torn in its midst", x.read(0, 1, 0, 4), 3);
        row("38: whole ones came", new int[] {x.sign(2), x.torn()}, 14, 2);
        x.set(2, 0);
        due("38: twenty", x.read(0, 1, 0, 20), 3);
        due("39: torn() stays when none is refused", x.torn(), 2);
        due("39: a read that comes to its end", x.read(0, 1, 4, 1), 1);
        due("39: torn()", x.torn(), 0);
        due("38: another lane", x.read(0, 0, 0, 2), 0);
        due("39: CAST", x.torn(), 3);
        due("38: another lane", x.read(0, 2, 99, 2), 0);
        due("39: CAST ahead of INDEX", x.torn(), 3);
        due("38: nothing", x.read(3, 2, 99, 2), 0);
        due("39: NULL", x.torn(), 1);
        for (int f : new int[] {7, -1, -2, MAX, MAX - 1, MIN}) {
            x.read(3, 2, 0, 1);
            due("38: read(0, 1, " + f + ", 20)", x.read(0, 1, f, 20), 0);
            due("39: INDEX", x.torn(), 2);
        }
        // What set() refuses: none came, and torn() stays.
        x.read(3, 2, 0, 1);
        lay(x, 0, 0, 5, 1, 5, 3, 5);
        x.set(0, 1);
        x.set(1, 1);
        due("38: no such SIGN", x.read(0, 1, 0, 3), -22);
        row("38: none came", new int[] {x.sign(0), x.sign(1), x.torn()}, 1, 1, 1);
        lay(x, 0, 0, 5, -1, 5);
        due("38: below 0", x.read(0, 1, 0, 2), -21);
        lay(x, 0, 0, 16, -1, 5);
        due("38: the first met", x.read(0, 1, 0, 2), -20);
        due("38: refused ahead of what is torn", x.read(0, 1, 0, 20), -20);
        lay(x, 0, 0, 5, 0, 5, 0, 5, 99);
        due("38: torn ahead of what would be refused", x.read(0, 1, 0, 5), 3);
        due("39: INDEX", x.torn(), 2);
        due("38: BAD", x.read(0, 3, 0, 5), BAD);
        due("39: BAD is no end", x.torn(), 2);
        x.sheet(0, 0, 40);
        due("38: twenty", x.read(0, 0, 0, 20), 20);
        due("39: whole", x.torn(), 0);
    }

    // Promise 40
    private static void count() {
        WatchDogs x = Check.told("plain 20;half 7;signs 15 1 2;");
        x.see(1, 1);
        x.see(2, 1);
        x.keep(1);
        x.feed(65);
        x.sheet(0, 1, 5);
        row("40: count", new int[] {x.count(0), x.count(1), x.count(2), x.count(3), x.count(4), x.count(5)}, 2, 1, 1, 5, 27, 18);
        row("40: wrong", new int[] {x.count(-1), x.count(6), x.count(MIN), x.count(MAX)}, BAD, BAD, BAD, BAD);
        x.cut(1);
        x.sheet(1, 0, 9);
        due("40: LIMITS of four DOGS", Check.told("plain 20;half 20;twice 20;window 1;").count(4), 61);
        row("40: SHEET 0 alone, SIGNS that are", new int[] {x.count(3), x.count(5)}, 5, 15);
    }
}
