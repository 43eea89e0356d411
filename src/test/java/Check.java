/** What all tests share: answers are compared, wrong ones printed, and the exit code tells whether there was one. */
final class Check {
    private static int asked = 0;
    private static int wrong = 0;

    private Check() {
    }

    static void due(String call, long got, long want) {
        asked++;
        if (got != want) {
            wrong++;
            System.out.println(call + " answered " + got + ", due is " + want);
        }
    }

    static void holds(String claim, boolean is) {
        due(claim, is ? 1 : 0, 1);
    }

    static void feed(WatchDogs x, String text) {
        for (int i = 0; i < text.length(); i++) {
            x.feed(text.charAt(i));
        }
    }

    /** The text comes on THE TAPE and is read: what text() answers. */
    static int tell(WatchDogs x, String text) {
        feed(x, text);
        return x.text();
    }

    /** A new object of which a text has told all. */
    static WatchDogs told(String text) {
        WatchDogs x = new WatchDogs();
        holds("taken: " + text, tell(x, text) >= 0);
        return x;
    }

    static void finish() {
        System.out.println(asked + " answers, " + wrong + " not as due");
        if (wrong != 0) {
            System.exit(1);
        }
    }
}
