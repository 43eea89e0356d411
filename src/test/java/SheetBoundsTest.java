import java.util.Arrays;

/** The boundary cases of promises 34 to 40: images, sheets. */
public final class SheetBoundsTest {
    private static final int BAD = -1, STATE = -2, NONE = -4;
    private static final int MIN = Integer.MIN_VALUE, MAX = Integer.MAX_VALUE;
    private static final int NULL = 1, INDEX = 2, CAST = 3;
    private static final Twin.Made RICH = Twin::rich;
    private static final Twin.Made NEW = x -> { };

    public static void main(String[] args) {
        keep();
        back();
        backIsWhole();
        backIsFull();
        sheetBounds();
        sheetIsNew();
        layBounds();
        lowestBits();
        readBounds();
        readFaults();
        readEdges();
        readRefused();
        readFirstMet();
        readOneBehindAnother();
        torn();
        count();
        Check.finish();
    }

    private static void due(String call, long got, long want) {
        Check.due(call, got, want);
    }

    private static void lay(WatchDogs x, int k, int... cells) {
        for (int i = 0; i < cells.length; i++) {
            due("37: lay(" + k + ", " + i + ", " + cells[i] + ")", x.lay(k, i, cells[i]), 1);
        }
    }

    /** SIGNS and a SHEET 0 with these CELLS. */
    private static Twin.Made laid(String text, int lane, int... cells) {
        return x -> {
            Check.tell(x, text);
            x.sheet(0, lane, cells.length);
            for (int i = 0; i < cells.length; i++) {
                x.lay(0, i, cells[i]);
            }
        };
    }

    // ---- promises 34, 35

    private static void keep() {
        Twin.bounds("34: keep", RICH, WatchDogs::keep, 0, 1);
        Twin.bounds("34: keep of nothing", NEW, WatchDogs::keep, 0, 1);
        for (int k = 0; k <= 1; k++) {
            WatchDogs x = new WatchDogs();
            due("34: there was none", x.keep(k), 0);
            due("34: there was one", x.keep(k), 1);
            due("34: there was one", x.keep(k), 1);
            due("40: IMAGES", x.count(1), 1);
            due("34: the other is another", x.keep(1 - k), 0);
            due("40: IMAGES", x.count(1), 2);
            due("35: a new one's TICK", x.back(k), 0);
        }
    }

    private static void back() {
        Twin.Made kept = x -> {
            Twin.rich(x);
            x.keep(0);
        };
        Twin.bounds("35: back", kept, WatchDogs::back, 0, 1);
        Twin.refused("35: STATE: no IMAGE 0", NEW, x -> x.back(0), STATE);
        Twin.refused("35: STATE: no IMAGE 1", NEW, x -> x.back(1), STATE);
        Twin.refused("35: STATE: no IMAGE 0, one 1", RICH, x -> x.back(0), STATE);
        Twin.refusedWith("35: BAD ahead of STATE", NEW, WatchDogs::back, -1, 2);
        Twin.unchanged("35: back to what is", kept, x -> x.back(0));
        due("35: TICK of 1", Twin.of(RICH).back(1), 0);
        due("35: TICK of 0", Twin.of(kept).back(0), 7);
        // Gone with a text that is taken, there with one that is not.
        WatchDogs x = Twin.of(kept);
        due("4: a FAULT", Check.tell(x, "?"), -17);
        due("35: it stays", x.back(0), 7);
        due("4: taken", Check.tell(x, ""), 0);
        due("35: STATE: it is gone", x.back(0), STATE);
        due("35: STATE: it is gone", x.back(1), STATE);
        due("34: there was none", x.keep(1), 0);
    }

    /** DOGS, SIGNS, JAMS, PLACE, TICK, RESETS, FREE, LAST, SEEN come back; THE TAPE, SHEETS, FAULTS are no part of it. */
    private static void backIsWhole() {
        Twin.Made before = x -> {
            Twin.rich(x);
            x.keep(0);
        };
        Twin.Made there = x -> {
            before.by(x);
            for (int d = 0; d < 4; d++) {
                x.alter(d, 0, d);
                x.alter(d, 1, 15 - d);
            }
            x.add(9);
            x.set(0, 14);
            x.clear(1);
            x.stick(2, 3);
            x.stick(40, 5);
            x.forget(1);
            x.see(9, 0);
            x.bone(3);
            x.ticks(30);
            x.back(0);
        };
        Twin.alike("35: all is as IMAGE 0", there, before);
        WatchDogs x = Twin.of(before);
        Check.feed(x, "?");
        x.sheet(0, 1, 9);
        x.read(0, 0, 0, 1);
        x.keep(1);
        x.sheet(0, 2, 11);
        x.back(0);
        due("35: THE TAPE stays", x.count(2), 8);
        due("35: SHEETS stay", x.count(3), 11);
        due("35: torn() stays", x.torn(), CAST);
        due("35: fault() stays", x.fault(), 3);
        due("35: IMAGES stay", x.count(1), 2);
        // Nothing at all may be kept, too.
        WatchDogs y = new WatchDogs();
        y.keep(0);
        Check.tell(y, "");
        y.keep(0);
        y.add(3);
        y.stick(1, 1);
        y.see(1, 1);
        y.ticks(5);
        due("35: back(0) to nothing", y.back(0), 0);
        due("35: no SIGNS", y.rule(1), 0);
        due("35: no JAMS", y.rule(2), 0);
        due("35: nothing SEEN", y.count(0), 0);
    }

    /** As much as there can be comes back, to the last of each. */
    private static void backIsFull() {
        Twin.Made before = x -> {
            Check.tell(x, "plain 17;window 18;twice 19;half 20;signs 15 14 13 12 11 10 9 8 7 6 5 4 3 2 1 0;"
                + "jam 1 2;jam 3 4;jam 5 6;jam 7 8;");
            x.ticks(20);
            for (int i = 0; i < 6; i++) {
                x.see(35 + i, 0);
            }
            x.keep(1);
        };
        Twin.Made there = x -> {
            before.by(x);
            x.cut(0);
            x.clear(0);
            x.forget(0);
            for (int i = 0; i < 16; i++) {
                x.add(1);
                x.stick(90, 9);
                x.see(9, 1);
            }
            for (int d = 0; d < 4; d++) {
                x.alter(d, 0, 2);
                x.alter(d, 1, 3);
            }
            x.ticks(50);
            x.back(1);
        };
        Twin.alike("35: as much as there can be", there, before);
        due("35: TICK", Twin.of(there).rule(3), 20);
    }

    // ---- promise 36

    private static void sheetBounds() {
        Twin.bounds("36: sheet(k, 0, 3)", RICH, (x, k) -> x.sheet(k, 0, 3), 0, 3);
        Twin.bounds("36: sheet(0, lane, 3)", RICH, (x, lane) -> x.sheet(0, lane, 3), 0, 2);
        for (int k = 0; k < 4; k++) {
            for (int lane = 0; lane <= 2; lane++) {
                int sheet = k;
                int of = lane;
                for (int n : new int[] {0, 1, 39, 40}) {
                    due("36: sheet(" + k + ", " + lane + ", " + n + ")", Twin.of(RICH).sheet(k, lane, n), 1);
                }
                for (int n : new int[] {41, 42, MAX}) {
                    Twin.refused("36: BAD: n " + n, RICH, x -> x.sheet(sheet, of, n), BAD);
                }
                for (int n : new int[] {-1, -2, MIN}) {
                    Twin.refused("36: SIZE: n " + n, RICH, x -> x.sheet(sheet, of, n), -14);
                }
            }
        }
        Twin.refusedWith("36: BAD ahead of SIZE, k", RICH, (x, k) -> x.sheet(k, 0, -1), -1, 4);
        Twin.refusedWith("36: BAD ahead of SIZE, lane", RICH, (x, lane) -> x.sheet(0, lane, -1), -1, 3);
    }

    private static void sheetIsNew() {
        for (int n : new int[] {0, 1, 2, 39, 40}) {
            WatchDogs x = new WatchDogs();
            x.sheet(0, 2, 40);
            lay(x, 0, 9, 9);
            x.lay(0, 39, 9);
            x.sheet(0, 2, n);
            due("40: CELLS", x.count(3), n);
            due("37: the last CELL", x.lay(0, n - 1, 0), n > 0 ? 1 : -12);
            due("37: one behind it", x.lay(0, n, 0), -12);
        }
        WatchDogs x = Check.told("signs 1 2;");
        x.sheet(1, 0, 4);
        lay(x, 1, 1, 7, 1, 9);
        x.sheet(1, 0, 4);
        due("36: CELLS are 0", x.read(1, 0, 0, 2), 2);
        due("36: SIGN 0 by CELLS of 0", x.sign(0), 0);
        due("36: SIGN 1 is none of them", x.sign(1), 2);
        x.sheet(1, 1, 4);
        due("36: of another lane now", x.read(1, 0, 0, 1) * 10 + x.torn(), CAST);
        due("36: SHEET 0 is nothing still", x.count(3), NONE);
        due("36: SHEET 2 is nothing still", x.lay(2, 0, 0), -11);
        // A shorter one, then a longer one: CELLS behind do not come back.
        x.sheet(1, 2, 2);
        x.sheet(1, 2, 4);
        due("36: CELLS are 0", x.read(1, 2, 2, 1), 1);
    }

    // ---- promise 37

    private static void layBounds() {
        Twin.bounds("37: lay(k, 0, 1)", RICH, (x, k) -> x.lay(k, 0, 1), 0, 3);
        Twin.refusedWith("37: BAD ahead of NULL", NEW, (x, k) -> x.lay(k, 0, 1), -1, 4);
        Twin.refusedWith("37: BAD ahead of INDEX", RICH, (x, k) -> x.lay(k, -1, 1), -1, 4);
        for (int k = 0; k < 4; k++) {
            int sheet = k;
            for (int i : new int[] {-1, 0, 39, 40, MIN, MAX}) {
                Twin.refused("37: NULL: lay(" + k + ", " + i + ", 1)", NEW, x -> x.lay(sheet, i, 1), -11);
            }
        }
        for (int n : new int[] {0, 1, 4, 40}) {
            for (int lane = 0; lane <= 2; lane++) {
                int of = lane;
                Twin.Made made = x -> x.sheet(3, of, n);
                for (int i : new int[] {-1, n, n + 1, MIN, MAX}) {
                    Twin.refused("37: INDEX: lay(3, " + i + ", 1) of " + n, made, x -> x.lay(3, i, 1), -12);
                }
                if (n > 0) {
                    due("37: lay(3, 0, 1) of " + n, Twin.of(made).lay(3, 0, 1), 1);
                    due("37: lay(3, " + (n - 1) + ", 1)", Twin.of(made).lay(3, n - 1, 1), 1);
                }
            }
        }
    }

    /** What v laid in a row of a lane feeds: the SIGN, or -20 if set() refuses it. */
    private static int laidAs(int lane, int v) {
        WatchDogs x = Twin.of(laid("signs 1;", lane, 0, v));
        int came = x.read(0, lane, 0, 1);
        return came == 1 ? x.sign(0) : came;
    }

    private static void lowestBits() {
        int[] values = {0, 15, 16, -1, 127, 128, 255, 256, 271, 272, -256, -241, 32767, 32768, 65535, 65536, 65551, 65552, -65536,
            -65521, 16777216, MAX, MIN, MIN + 15, MIN + 16};
        for (int v : values) {
            int[] kept = {(byte) v, (short) v, v};
            for (int lane = 0; lane <= 2; lane++) {
                due("37: " + v + " in lane " + lane, laidAs(lane, v), kept[lane] < 0 || kept[lane] > 15 ? -20 : kept[lane]);
            }
        }
        due("37: BYTES: 256 is 0", laidAs(0, 256), 0);
        due("37: BYTES: 255 is below 0", laidAs(0, 255), -20);
        due("37: SHORTS: 256 is 256", laidAs(1, 256), -20);
        due("37: SHORTS: 65536 is 0", laidAs(1, 65536), 0);
        due("37: INTS: 65536 is 65536", laidAs(2, 65536), -20);
    }

    // ---- promise 38

    private static void readBounds() {
        Twin.bounds("38: read(k, 0, 0, 1)", RICH, (x, k) -> x.read(k, 0, 0, 1), 0, 3);
        Twin.bounds("38: read(0, lane, 0, 1)", RICH, (x, lane) -> x.read(0, lane, 0, 1), 0, 2);
        Twin.bounds("38: read(0, 0, 0, n)", RICH, (x, n) -> x.read(0, 0, 0, n), 0, 20);
        Twin.refusedWith("38: BAD ahead of NULL, n", RICH, (x, n) -> x.read(1, 0, 0, n), -1, 21);
        Twin.refusedWith("38: BAD ahead of CAST, n", RICH, (x, n) -> x.read(0, 1, 0, n), -1, 21);
        Twin.refusedWith("38: BAD ahead of INDEX, n", RICH, (x, n) -> x.read(0, 0, -1, n), -1, 21);
        Twin.refusedWith("38: BAD ahead of CAST, lane", RICH, (x, lane) -> x.read(0, lane, 0, 1), -1, 3);
        Twin.refusedWith("38: BAD ahead of what set() refuses", laid("signs 1;", 0, 9, 9), (x, n) -> x.read(0, 0, 0, n), -1, 21);
        // No times: none came, nothing is read.
        WatchDogs x = Twin.of(RICH);
        due("38: n 0", x.read(0, 0, 0, 0), 0);
        due("39: n 0", x.torn(), 0);
        due("38: SIGNS stay", x.count(5), 20);
    }

    private static void readFaults() {
        WatchDogs x = Twin.of(RICH);
        int before = x.count(5);
        for (int f : new int[] {0, 3, 4, -1, MIN, MAX}) {
            for (int n : new int[] {1, 2, 20}) {
                for (int lane = 0; lane <= 2; lane++) {
                    due("38: NULL, f " + f + ", n " + n, x.read(1, lane, f, n), 0);
                    due("39: NULL", x.torn(), NULL);
                    if (lane != 0) {
                        due("38: CAST, f " + f + ", n " + n, x.read(0, lane, f, n), 0);
                        due("39: CAST, ahead of INDEX", x.torn(), CAST);
                    }
                }
            }
        }
        for (int lane = 0; lane <= 2; lane++) {
            for (int of = 0; of <= 2; of++) {
                x.sheet(3, lane, 0);
                due("38: no CELLS", x.read(3, of, 0, 1), 0);
                due("39: a SHEET without CELLS is not nothing", x.torn(), lane == of ? INDEX : CAST);
            }
        }
        due("38: SIGNS stay", x.count(5), before);
    }

    /** Where the CELLS end and begin: whole ones came, the one that is cut off did not. */
    private static void readEdges() {
        int[] fives = {0, 5, 1, 5, 2, 5, 3, 5};
        for (int cells = 0; cells <= 8; cells++) {
            int[] row = Arrays.copyOf(fives, cells);
            for (int n = 0; n <= 20; n++) {
                WatchDogs x = Twin.of(laid("signs 0 0 0 0 0;", 1, row));
                int whole = Math.min(n, cells / 2);
                due("38: " + n + " of " + cells + " CELLS", x.read(0, 1, 0, n), whole);
                due("38: those that were whole came", x.count(5), 5 * whole);
                due("39: " + n + " of " + cells + " CELLS", x.torn(), n > whole ? INDEX : 0);
            }
        }
        WatchDogs x = Twin.of(laid("signs 0 0 0 0 0;", 2, fives));
        due("38: the last two CELLS", x.read(0, 2, 6, 1), 1);
        due("38: SIGN 3", x.sign(3), 5);
        due("39: whole", x.torn(), 0);
        for (int f : new int[] {7, 8, 9, -1, -2, -3, MIN, MIN + 1, MAX, MAX - 1}) {
            for (int n : new int[] {1, 2, 20}) {
                WatchDogs y = Twin.of(laid("signs 0 0 0 0 0;", 2, fives));
                due("38: from CELL " + f, y.read(0, 2, f, n), 0);
                due("39: INDEX, from CELL " + f, y.torn(), INDEX);
                due("38: none came", y.count(5), 0);
            }
        }
        // From an odd CELL on: a 5 is which SIGN then, and there are six.
        WatchDogs odd = Twin.of(laid("signs 0 0 0 0 0 0;", 2, fives));
        due("38: from CELL 1", odd.read(0, 2, 1, 20), 3);
        due("38: SIGN 5 is the latest of 1, 2, 3", odd.sign(5), 3);
        // Forty CELLS are twenty times two.
        WatchDogs most = new WatchDogs();
        for (int i = 0; i < 16; i++) {
            most.add(0);
        }
        most.sheet(3, 0, 40);
        for (int i = 0; i < 20; i++) {
            most.lay(3, 2 * i, i % 16);
            most.lay(3, 2 * i + 1, 15);
        }
        due("38: twenty", most.read(3, 0, 0, 20), 20);
        due("38: all came", most.count(5), 240);
        due("39: whole", most.torn(), 0);
        due("38: nineteen, the twentieth is cut off", most.read(3, 0, 2, 20), 19);
        due("39: INDEX", most.torn(), INDEX);
    }

    /** The i-th, whole, is refused by set(): then none came, nor is anything else changed. */
    private static void readRefused() {
        int[][] wrong = {{-1, 5}, {3, 5}, {127, 5}, {-128, 5}, {0, -1}, {0, 16}, {0, 127}, {2, -128}, {3, 16}};
        for (int[] pair : wrong) {
            for (int i = 0; i < 4; i++) {
                int[] row = {0, 1, 1, 2, 2, 3, 0, 4};
                row[2 * i] = pair[0];
                row[2 * i + 1] = pair[1];
                for (int n = i + 1; n <= 20; n += 5) {
                    int times = n;
                    Twin.refused("38: the " + i + ". of " + n + " is " + pair[0] + ", " + pair[1], laid("signs 7 8 9;", 0, row),
                        x -> x.read(0, 0, 0, times), -20 - i);
                }
                due("38: one less is not refused", Twin.of(laid("signs 7 8 9;", 0, row)).read(0, 0, 0, i), i);
            }
        }
        int[][] right = {{0, 0}, {0, 15}, {2, 0}, {2, 15}};
        for (int[] pair : right) {
            WatchDogs x = Twin.of(laid("signs 7 8 9;", 0, pair));
            due("38: " + pair[0] + ", " + pair[1], x.read(0, 0, 0, 1), 1);
            due("38: it came", x.sign(pair[0]), pair[1]);
        }
        Twin.refused("38: no SIGNS", laid("plain 1;", 0, 0, 0), x -> x.read(0, 0, 0, 1), -20);
        // The twentieth of sixteen SIGNS.
        WatchDogs x = Check.told("signs 0;");
        x.sheet(0, 2, 40);
        x.lay(0, 39, 16);
        due("38: the last of twenty", x.read(0, 2, 0, 20), -39);
        due("38: nineteen of them", x.read(0, 2, 0, 19), 19);
    }

    /** Of what set() refuses and what the machine refuses the first met. */
    private static void readFirstMet() {
        Twin.refused("38: refused, then the end", laid("signs 7 8;", 1, 0, 1, 1, 16, 0), x -> x.read(0, 1, 0, 3), -21);
        Twin.refused("38: two are refused", laid("signs 7 8;", 1, 0, 16, 1, 16), x -> x.read(0, 1, 0, 2), -20);
        WatchDogs x = Twin.of(laid("signs 7 8;", 1, 0, 1, 1, 2, 99));
        due("38: cut off ahead of being refused", x.read(0, 1, 0, 3), 2);
        due("39: INDEX", x.torn(), INDEX);
        due("38: SIGN 0", x.sign(0), 1);
        due("38: SIGN 1", x.sign(1), 2);
        Twin.Made other = laid("signs 7 8;", 1, 99, 99);
        due("38: CAST ahead of being refused", Twin.of(other).read(0, 0, 0, 1), 0);
        due("38: INDEX ahead of being refused", Twin.of(other).read(0, 1, 1, 1), 0);
    }

    private static void readOneBehindAnother() {
        WatchDogs x = Twin.of(laid("signs 7 8;", 2, 0, 1, 0, 2, 0, 3));
        due("38: the same SIGN three times", x.read(0, 2, 0, 3), 3);
        due("38: the latest stands", x.sign(0), 3);
        due("38: the other stays", x.sign(1), 8);
        due("38: PLACE stays", x.rule(5), 0);
        due("38: the SHEET stays", x.read(0, 2, 2, 1) * 10 + x.sign(0), 12);
    }

    // ---- promise 39

    private static void torn() {
        WatchDogs x = Twin.of(laid("signs 7 8;", 2, 0, 1, 0, 16));
        due("39: none yet", x.torn(), 0);
        x.read(1, 2, 0, 1);
        due("39: NULL", x.torn(), NULL);
        due("39: asked twice", x.torn(), NULL);
        x.read(0, 2, 0, 2);
        due("39: one that was refused came to no end", x.torn(), NULL);
        x.read(4, 2, 0, 1);
        x.read(0, 3, 0, 1);
        x.read(0, 2, 0, 21);
        x.read(0, 2, 0, -1);
        due("39: nor one that was BAD", x.torn(), NULL);
        x.lay(3, 0, 0);
        x.lay(0, 4, 0);
        x.sheet(0, 0, -1);
        due("39: FAULTS of other calls are not of read()", x.torn(), NULL);
        x.text();
        due("39: a text is no read()", x.torn(), NULL);
        Check.tell(x, "signs 7 8;");
        x.read(0, 2, 0, 1);
        due("39: 0", x.torn(), 0);
        x.read(0, 1, 0, 1);
        due("39: CAST", x.torn(), CAST);
        x.read(0, 2, 4, 1);
        due("39: INDEX", x.torn(), INDEX);
        Twin.unchanged("39: torn()", RICH, WatchDogs::torn);
    }

    // ---- promise 40

    private static void count() {
        Twin.bounds("40: count", RICH, WatchDogs::count, 0, 5);
        Twin.bounds("40: count of nothing", NEW, WatchDogs::count, 0, 5);
        int[] want = {3, 1, 7, 4, 26, 20};
        for (int what = 0; what <= 5; what++) {
            int asked = what;
            due("40: count(" + what + ")", Twin.of(RICH).count(what), want[what]);
            Twin.unchanged("40: count(" + what + ")", RICH, x -> x.count(asked));
        }
        // The most of each.
        WatchDogs x = Check.told("plain 20;half 20;twice 20;window 20;signs 15 15 15 15 15 15 15 15 15 15 15 15 15 15 15 15;");
        for (int i = 0; i < 6; i++) {
            x.see(i, 0);
        }
        x.keep(0);
        x.keep(1);
        Check.feed(x, "?".repeat(160));
        x.sheet(0, 0, 40);
        int[] most = {6, 2, 160, 40, 80, 240};
        for (int what = 0; what <= 5; what++) {
            due("40: the most, count(" + what + ")", x.count(what), most[what]);
        }
        WatchDogs y = new WatchDogs();
        due("40: NONE: SHEET 0 is nothing", y.count(3), NONE);
        y.sheet(1, 0, 7);
        due("40: NONE: SHEET 1 is another", y.count(3), NONE);
        y.sheet(0, 0, -1);
        y.sheet(0, 0, 41);
        due("40: NONE: it was refused", y.count(3), NONE);
        y.sheet(0, 2, 0);
        due("40: no CELLS are not nothing", y.count(3), 0);
        // Those that are, not those that were.
        x.cut(15);
        x.forget(5);
        x.end(159);
        x.sheet(0, 0, 39);
        due("40: SIGNS", x.count(5), 225);
        due("40: SEEN", x.count(0), 5);
        due("40: bytes", x.count(2), 159);
        due("40: CELLS", x.count(3), 39);
    }
}
