import java.util.Random;

/** Runs of 512 calls by seeds: WatchDogs answers each as Model does. */
public final class ModelTest {
    private static final int RUNS = 600;
    private static final int CALLS = 512;
    private static final String[] NAMES = {"plain", "window", "twice", "half", "signs", "jam", "x", "plains", "jamm"};
    private static final int[] EDGES = {
        Integer.MIN_VALUE, Integer.MIN_VALUE + 1, -2, -1, 0, 1, 2, 3, 4, 5, 6, 7, 8, 9, 10, 11, 15, 16, 17, 20, 21, 39, 40, 41,
        99, 100, 101, 127, 128, 199, 200, 201, 255, 256, 65535, 65536, Integer.MAX_VALUE - 1, Integer.MAX_VALUE,
    };

    private final Random random;
    private final WatchDogs x = new WatchDogs();
    private final Model model = new Model();
    private final int run;
    private int calls = 0;

    private ModelTest(int run) {
        this.run = run;
        this.random = new Random(run);
    }

    public static void main(String[] args) {
        for (int run = 0; run < RUNS; run++) {
            new ModelTest(run).go();
        }
        Check.finish();
    }

    private void due(String call, long got, long want) {
        calls++;
        Check.due("run " + run + ", call " + calls + ": " + call, got, want);
    }

    /** Mostly a number of the bounds, now and then an edge beyond them. */
    private int pick(int low, int high) {
        if (random.nextInt(25) == 0) {
            return EDGES[random.nextInt(EDGES.length)];
        }
        return low + random.nextInt(high - low + 1);
    }

    private void go() {
        tellGood();
        while (calls < CALLS) {
            int r = random.nextInt(100);
            if (r < 2 && calls < CALLS - 170) {
                if (random.nextInt(3) == 0) {
                    tellGood();
                } else {
                    tell(anyText());
                }
            } else if (r < 20) {
                change();
            } else if (r < 40) {
                walk();
            } else if (r < 60) {
                judge();
            } else if (r < 75) {
                guess();
            } else {
                store();
            }
            look();
        }
    }

    private void tell(String text) {
        for (int i = 0; i < text.length(); i++) {
            int c = text.charAt(i);
            due("feed(" + c + ")", x.feed(c), model.feed(c));
        }
        if (random.nextInt(8) == 0) {
            int n = pick(0, 160);
            due("end(" + n + ")", x.end(n), model.end(n));
        }
        due("text() of " + text, x.text(), model.text());
        due("fault()", x.fault(), model.fault());
        lookAtAll();
    }

    private void tellGood() {
        StringBuilder s = new StringBuilder();
        int dogs = random.nextInt(10) == 0 ? 0 : 1 + random.nextInt(4);
        int easy = 1 + random.nextInt(20);
        for (int d = 0; d < dogs; d++) {
            s.append(NAMES[random.nextInt(4)]).append(' ').append(1 + random.nextInt(easy)).append(';');
        }
        if (random.nextInt(8) != 0) {
            s.append("signs");
            for (int i = random.nextInt(16); i >= 0; i--) {
                s.append(' ').append(random.nextInt(16));
            }
            s.append(';');
        }
        for (int j = random.nextInt(5); j > 0; j--) {
            s.append("jam ").append(random.nextInt(100)).append(' ').append(1 + random.nextInt(40)).append(';');
        }
        tell(s.toString());
    }

    private String anyText() {
        StringBuilder s = new StringBuilder();
        int lines = random.nextInt(9);
        for (int i = 0; i < lines && s.length() < 130; i++) {
            s.append(" ".repeat(random.nextInt(2)));
            String name = NAMES[random.nextInt(random.nextInt(6) == 0 ? NAMES.length : 6)];
            s.append(name).append(random.nextInt(4) == 0 ? "" : " ");
            int numbers = name.equals("jam") ? 2 : name.equals("signs") ? 1 + random.nextInt(18) : 1;
            for (int k = 0; k < numbers; k++) {
                s.append(number(name, k)).append(k + 1 < numbers || random.nextBoolean() ? " " : "");
            }
            s.append(random.nextInt(30) == 0 ? "" : ";");
        }
        if (random.nextInt(4) == 0 && s.length() > 0) {
            int at = random.nextInt(s.length());
            s.setCharAt(at, "; a0Z!{`/:\n\t\u007f\u0000".charAt(random.nextInt(14)));
        }
        return s.toString();
    }

    private String number(String name, int k) {
        int top = name.equals("signs") ? 15 : name.equals("jam") ? (k == 0 ? 99 : 40) : 20;
        if (random.nextInt(40) == 0) {
            return new String[] {"0", "00", "05", "16", "21", "41", "99", "100", "000", ""}[random.nextInt(10)];
        }
        return String.valueOf(1 + random.nextInt(top));
    }

    private void change() {
        int a = pick(0, 3);
        int b;
        switch (random.nextInt(8)) {
            case 0:
                b = pick(0, 1);
                int v = pick(b == 1 ? 1 : 0, b == 1 ? 20 : 3);
                due("alter(" + a + "," + b + "," + v + ")", x.alter(a, b, v), model.alter(a, b, v));
                break;
            case 1:
                a = pick(0, 15);
                b = pick(0, 15);
                due("set(" + a + "," + b + ")", x.set(a, b), model.set(a, b));
                break;
            case 2:
                a = pick(0, 15);
                due("add(" + a + ")", x.add(a), model.add(a));
                break;
            case 3:
                a = random.nextInt(3) == 0 ? pick(0, 16) : x.rule(1) - random.nextInt(3);
                due("cut(" + a + ")", x.cut(a), model.cut(a));
                break;
            case 4:
                a = random.nextBoolean() ? pick(0, 99) : x.rule(3) + random.nextInt(5);
                b = pick(1, 40);
                due("stick(" + a + "," + b + ")", x.stick(a, b), model.stick(a, b));
                break;
            case 5:
                a = pick(0, 4);
                due("clear(" + a + ")", x.clear(a), model.clear(a));
                break;
            default:
                due("bone(" + a + ")", x.bone(a), model.bone(a));
        }
    }

    private void walk() {
        int d = pick(0, 3);
        int n = random.nextBoolean() ? pick(0, 200) : pick(0, 12);
        int what = pick(0, 3);
        switch (random.nextInt(5)) {
            case 0:
            case 1:
                n = random.nextInt(3) == 0 ? pick(0, 100) : pick(0, 6);
                due("ticks(" + n + ")", x.ticks(n), model.ticks(n));
                break;
            case 2:
                due("runs(" + n + "," + what + ")", x.runs(n, what), model.runs(n, what));
                break;
            case 3:
                due("ahead(" + d + "," + n + "," + what + ")", x.ahead(d, n, what), model.ahead(d, n, what));
                break;
            default:
                due("when()", x.when(), model.when());
        }
    }

    private void judge() {
        int d = pick(0, 3);
        int n = random.nextBoolean() ? pick(0, 200) : pick(0, 20);
        int what = pick(0, 1);
        int v = pick(0, 10);
        int m = pick(0, 8);
        switch (random.nextInt(7)) {
            case 0:
                due("need(" + d + "," + n + ")", x.need(d, n), model.need(d, n));
                break;
            case 1:
                due("most(" + d + "," + n + ")", x.most(d, n), model.most(d, n));
                break;
            case 2:
                due("kind(" + d + "," + n + "," + what + ")", x.kind(d, n, what), model.kind(d, n, what));
                break;
            case 3:
                due("swap(" + n + "," + what + ")", x.swap(n, what), model.swap(n, what));
                break;
            case 4:
                due("sleep(" + n + "," + what + ")", x.sleep(n, what), model.sleep(n, what));
                break;
            case 5:
                due("luck(" + v + "," + m + "," + what + ")", x.luck(v, m, what), model.luck(v, m, what));
                break;
            default:
                due("mean(" + v + "," + m + "," + what + ")", x.mean(v, m, what), model.mean(v, m, what));
        }
    }

    private void guess() {
        int d = pick(0, 3);
        int n = pick(0, 40);
        int what = pick(0, 1);
        switch (random.nextInt(8)) {
            case 0:
                // What is true is left standing by most kinds and limits, so it is told more often.
                int v = random.nextInt(3) == 0 ? what : n >= 0 && n <= 40 ? x.runs(n + 1, 0) - x.runs(n, 0) : what;
                due("see(" + n + "," + v + ")", x.see(n, v), model.see(n, v));
                break;
            case 1:
                n = pick(0, 6);
                due("forget(" + n + ")", x.forget(n), model.forget(n));
                break;
            case 2:
                due("kinds(" + d + ")", x.kinds(d), model.kinds(d));
                break;
            case 3:
                due("limits(" + d + ")", x.limits(d), model.limits(d));
                break;
            case 4:
            case 5:
                due("ask(" + d + "," + what + ")", x.ask(d, what), model.ask(d, what));
                break;
            default:
                n = pick(1, 200);
                int seed = random.nextInt();
                due("drift(" + seed + "," + n + "," + what + ")", x.drift(seed, n, what), model.drift(seed, n, what));
        }
    }

    private void store() {
        int k = pick(0, 3);
        int lane = pick(0, 2);
        int n;
        switch (random.nextInt(8)) {
            case 0:
                k = pick(0, 1);
                due("keep(" + k + ")", x.keep(k), model.keep(k));
                break;
            case 1:
                k = pick(0, 1);
                due("back(" + k + ")", x.back(k), model.back(k));
                break;
            case 2:
                n = pick(0, 40);
                due("sheet(" + k + "," + lane + "," + n + ")", x.sheet(k, lane, n), model.sheet(k, lane, n));
                break;
            case 3:
            case 4:
                int i = random.nextInt(3) == 0 ? pick(0, 39) : pick(0, 7);
                int v = random.nextInt(9) == 0 ? random.nextInt() : pick(0, 15);
                due("lay(" + k + "," + i + "," + v + ")", x.lay(k, i, v), model.lay(k, i, v));
                break;
            default:
                int f = pick(0, 8);
                n = random.nextInt(3) == 0 ? pick(0, 20) : pick(0, 4);
                due("read(" + k + "," + lane + "," + f + "," + n + ")", x.read(k, lane, f, n), model.read(k, lane, f, n));
                due("torn()", x.torn(), model.torn());
        }
    }

    private void look() {
        int what = pick(0, 8);
        due("rule(" + what + ")", x.rule(what), model.rule(what));
        int d = pick(0, 3);
        int of = pick(0, 3);
        due("dog(" + d + "," + of + ")", x.dog(d, of), model.dog(d, of));
        int i = pick(0, 15);
        due("sign(" + i + ")", x.sign(i), model.sign(i));
        int j = pick(0, 3);
        int part = pick(0, 1);
        due("jam(" + j + "," + part + ")", x.jam(j, part), model.jam(j, part));
        int sum = pick(0, 5);
        due("count(" + sum + ")", x.count(sum), model.count(sum));
        if (random.nextInt(6) == 0) {
            lookAtAll();
        }
    }

    /** Looks at all that can be looked at, without its being counted as calls of the run. */
    private void lookAtAll() {
        int before = calls;
        for (int what = -1; what <= 9; what++) {
            due("rule(" + what + ")", x.rule(what), model.rule(what));
        }
        for (int d = -1; d <= 4; d++) {
            for (int what = -1; what <= 4; what++) {
                due("dog(" + d + "," + what + ")", x.dog(d, what), model.dog(d, what));
            }
        }
        for (int i = -1; i <= 16; i++) {
            due("sign(" + i + ")", x.sign(i), model.sign(i));
        }
        for (int i = -1; i <= 4; i++) {
            due("jam(" + i + ",0)", x.jam(i, 0), model.jam(i, 0));
            due("jam(" + i + ",1)", x.jam(i, 1), model.jam(i, 1));
        }
        for (int what = -1; what <= 6; what++) {
            due("count(" + what + ")", x.count(what), model.count(what));
        }
        calls = before;
    }
}
