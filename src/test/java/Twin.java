/**
 * What is refused changes nothing: an object that was asked and a twin that was made likewise but not asked are
 * looked at all over. Each look is taken at a new pair, so that no object comes near its 512th call.
 */
final class Twin {
    private static final int BAD = -1;
    private static final int[] FAR = {Integer.MIN_VALUE, Integer.MAX_VALUE};
    private static final int LOOKS = 8;
    /** In TICK 7: a RESET by DOG 3 in TICK 2, PLACE 2, STUCK, COUNTS 3 1 2 4, and DOG 1 has barked once. */
    static final String RICH = "half 7;twice 2;plain 8;window 9;signs 1 4 8 0 7;jam 5 4;jam 20 3;";

    interface Made {
        void by(WatchDogs x);
    }

    interface Asked {
        long of(WatchDogs x);
    }

    interface AskedWith {
        long of(WatchDogs x, int v);
    }

    private Twin() {
    }

    /** Something of everything: DOGS, SIGNS, JAMS, SEEN, an IMAGE that is another, SHEETS, THE TAPE, a FAULT, a torn read. */
    static void rich(WatchDogs x) {
        Check.tell(x, RICH);
        Check.tell(x, "plain 0;");
        x.see(30, 1);
        x.keep(1);
        x.ticks(7);
        x.see(1, 1);
        x.see(3, 0);
        x.sheet(0, 0, 4);
        x.lay(0, 0, 1);
        x.lay(0, 1, 9);
        x.lay(0, 3, -7);
        x.sheet(2, 2, 40);
        x.lay(2, 39, 15);
        x.read(0, 0, 4, 1);
        Check.feed(x, "half 9;");
    }

    static WatchDogs of(Made made) {
        WatchDogs x = new WatchDogs();
        made.by(x);
        return x;
    }

    /** The call answers so and changes nothing. */
    static void refused(String call, Made made, Asked asked, long want) {
        Check.due(call, asked.of(of(made)), want);
        unchanged(call, made, asked);
    }

    /** The call changes nothing, whatever it answers. */
    static void unchanged(String call, Made made, Asked asked) {
        Made then = x -> {
            made.by(x);
            asked.of(x);
        };
        alike(call, then, made);
        Check.due(call + ": fault() stays", of(then).fault(), of(made).fault());
    }

    /** Both are alike in all but fault(). */
    static void alike(String call, Made one, Made other) {
        for (int look = 0; look < LOOKS; look++) {
            String got = look(of(one), look);
            String want = look(of(other), look);
            Check.holds(call + ": look " + look + " is " + got + ", due is " + want, got.equals(want));
        }
    }

    /** The number is taken from the least to the greatest; one below, one above and those far away are BAD and change nothing. */
    static void bounds(String call, Made made, AskedWith asked, int least, int greatest) {
        for (int v : new int[] {least, Math.min(least + 1, greatest), Math.max(greatest - 1, least), greatest}) {
            Check.holds(call + " with " + v + " is not BAD", asked.of(of(made), v) != BAD);
        }
        refusedWith(call, made, asked, least - 1, greatest + 1);
    }

    /** None of these numbers, nor those far away, is taken. */
    static void refusedWith(String call, Made made, AskedWith asked, int... wrong) {
        for (int v : wrong) {
            refused(call + " with " + v, made, x -> asked.of(x, v), BAD);
        }
        for (int v : FAR) {
            refused(call + " with " + v, made, x -> asked.of(x, v), BAD);
        }
    }

    private static String look(WatchDogs x, int look) {
        StringBuilder row = new StringBuilder();
        switch (look) {
            case 0:
                told(x, row);
                break;
            case 1:
                seen(x, row);
                break;
            case 2:
            case 3:
                note(row, x.back(look - 2));
                told(x, row);
                seen(x, row);
                break;
            default:
                cells(x, look - 4, row);
                tape(x, row);
        }
        return row.toString();
    }

    private static void note(StringBuilder row, long answer) {
        row.append(answer).append(' ');
    }

    private static void told(WatchDogs x, StringBuilder row) {
        for (int what = 0; what <= 8; what++) {
            note(row, x.rule(what));
        }
        for (int d = 0; d < 4; d++) {
            for (int what = 0; what <= 3; what++) {
                note(row, x.dog(d, what));
            }
        }
        for (int i = 0; i < 16; i++) {
            note(row, x.sign(i));
        }
        for (int i = 0; i < 4; i++) {
            note(row, x.jam(i, 0));
            note(row, x.jam(i, 1));
        }
        for (int what = 0; what <= 5; what++) {
            note(row, x.count(what));
        }
        note(row, x.torn());
    }

    /** What is SEEN shows in which KINDS and LIMITS are left, and in how many more are when the latest is forgotten. */
    private static void seen(WatchDogs x, StringBuilder row) {
        for (int n = x.count(0); n >= 0; n--) {
            x.forget(n);
            for (int d = 0; d < 4; d++) {
                note(row, x.kinds(d));
                note(row, x.limits(d));
            }
        }
    }

    /** Each CELL as which SIGN and as what it is to be, of each lane. */
    private static void cells(WatchDogs x, int k, StringBuilder row) {
        x.cut(0);
        for (int i = 0; i < 16; i++) {
            x.add(1);
        }
        for (int lane = 0; lane <= 2; lane++) {
            for (int f = -1; f <= 40; f++) {
                note(row, x.read(k, lane, f, 1));
                note(row, x.count(5));
            }
            note(row, x.torn());
        }
    }

    private static void tape(WatchDogs x, StringBuilder row) {
        note(row, x.text());
        note(row, x.fault());
        told(x, row);
    }
}
