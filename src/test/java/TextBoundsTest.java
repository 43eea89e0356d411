/** The boundary cases of promises 1 to 9 and of how a text is read. */
public final class TextBoundsTest {
    private static final int BAD = -1, FULL = -3, NONE = -4;
    private static final String[] KINDS = {"plain", "window", "twice", "half"};
    private static final Twin.Made RICH = Twin::rich;
    private static final Twin.Made NEW = x -> { };
    /** As much as there can be: four DOGS, sixteen SIGNS, four JAMS. */
    private static final String MOST = "plain 1;window 2;twice 3;half 4;signs 0 1 2 3 4 5 6 7 8 9 10 11 12 13 14 15;"
        + "jam 0 1;jam 1 2;jam 2 3;jam 3 4;";
    private static final String SIXTEEN = "signs 0 0 0 0 0 0 0 0 0 0 0 0 0 0 0 0";

    public static void main(String[] args) {
        newObject();
        feed();
        end();
        lengths();
        taken();
        noTokens();
        misplaced();
        outOfBounds();
        tooMany();
        firstMet();
        faultStays();
        rule();
        dog();
        sign();
        jam();
        Check.finish();
    }

    private static void due(String call, long got, long want) {
        Check.due(call, got, want);
    }

    private static Twin.Made told(String text) {
        return x -> Check.tell(x, text);
    }

    // ---- promise 1

    private static void newObject() {
        WatchDogs other = Twin.of(RICH);
        WatchDogs x = new WatchDogs();
        due("1: another object is another", other.rule(0), 4);
        for (int what = 0; what <= 8; what++) {
            due("1: rule(" + what + ")", x.rule(what), what == 7 ? NONE : 0);
        }
        for (int what = 0; what <= 5; what++) {
            due("1: count(" + what + ")", x.count(what), what == 3 ? NONE : 0);
        }
        Twin.refusedWith("1: no DOGS: dog(d, 0)", NEW, (y, d) -> y.dog(d, 0), 0, 1, -1);
        Twin.refusedWith("1: no SIGNS: sign", NEW, WatchDogs::sign, 0, 1, -1);
        Twin.refusedWith("1: no JAMS: jam(i, 0)", NEW, (y, i) -> y.jam(i, 0), 0, 1, -1);
        for (int k = 0; k < 4; k++) {
            int sheet = k;
            Twin.refused("1: SHEETS of nothing: lay(" + k + ", 0, 0)", NEW, y -> y.lay(sheet, 0, 0), -11);
        }
        due("1: fault()", x.fault(), 0);
        due("1: torn()", x.torn(), 0);
        due("1: no IMAGE 0", x.back(0), -2);
        due("1: no IMAGE 1", x.back(1), -2);
    }

    // ---- promise 2

    private static void feed() {
        Twin.bounds("2: feed", RICH, WatchDogs::feed, 0, 127);
        Twin.bounds("2: feed on an empty TAPE", NEW, WatchDogs::feed, 0, 127);
        WatchDogs x = new WatchDogs();
        for (int n = 1; n <= 160; n++) {
            due("2: feed, the " + n + ". byte", x.feed(' '), n);
        }
        Twin.Made nearly = y -> Check.feed(y, " ".repeat(151) + "plain 7;");
        Twin.Made full = y -> Check.feed(y, " ".repeat(152) + "plain 7;");
        due("2: feed, the 160th", Twin.of(nearly).feed(';'), 160);
        Twin.refused("2: FULL: the 161st", full, y -> y.feed(';'), FULL);
        Twin.refused("2: FULL: the 161st is 0", full, y -> y.feed(0), FULL);
        Twin.refused("2: FULL: the 161st is 127", full, y -> y.feed(127), FULL);
        Twin.refusedWith("2: BAD ahead of FULL", full, WatchDogs::feed, -1, 128);
        WatchDogs y = Twin.of(full);
        y.end(159);
        due("2: room for one again", y.feed(';'), 160);
        due("2: and for no other", y.feed(';'), FULL);
        due("2: the TAPE is read whole", y.text(), 1);
        due("2: behind text() there is room", y.feed(';'), 1);
    }

    // ---- promise 3

    private static void end() {
        Twin.bounds("3: end of seven bytes", RICH, WatchDogs::end, 0, 7);
        Twin.bounds("3: end of none", NEW, WatchDogs::end, 0, 0);
        Twin.bounds("3: end of one", x -> x.feed(';'), WatchDogs::end, 0, 1);
        Twin.bounds("3: end of 160", x -> Check.feed(x, " ".repeat(160)), WatchDogs::end, 0, 160);
        Twin.unchanged("3: end(7) of seven keeps all", RICH, x -> x.end(7));
        WatchDogs x = new WatchDogs();
        Check.feed(x, "plain 12;");
        due("3: end(9) of nine", x.end(9), 9);
        due("3: end(8)", x.end(8), 9);
        due("3: what is gone does not come back", x.end(9), BAD);
        due("3: count(2)", x.count(2), 8);
        due("3: feed comes behind what is kept", x.feed(';'), 9);
        due("3: text()", x.text(), 1);
        due("3: LIMIT", x.dog(0, 1), 12);
        Check.feed(x, "plain 12;");
        due("3: end(0)", x.end(0), 9);
        due("3: end(0) of none", x.end(0), 0);
        due("3: end(1) of none", x.end(1), BAD);
        due("3: nothing is read", x.text(), 0);
    }

    // ---- promise 4: how long, how many

    private static void lengths() {
        due("4: the least place", Check.tell(new WatchDogs(), "?"), -10);
        due("4: the place of the last byte of 160", Check.tell(new WatchDogs(), " ".repeat(159) + "?"), -169);
        due("4: the length, 160", Check.tell(new WatchDogs(), " ".repeat(155) + "plain"), -170);
        due("4: the length, blanks and all", Check.tell(new WatchDogs(), "plain" + " ".repeat(155)), -170);
        due("4: the length of 159", Check.tell(new WatchDogs(), "plain" + " ".repeat(154)), -169);
        due("4: blanks alone", Check.tell(new WatchDogs(), " ".repeat(160)), 0);
        due("4: no lines", new WatchDogs().text(), 0);
        due("4: one line", Check.tell(new WatchDogs(), "half 1;"), 1);
        due("4: nine lines", Check.tell(new WatchDogs(), MOST), 9);
        due("4: nine lines, the last signs", Check.tell(new WatchDogs(),
            "jam1 1;jam1 1;jam1 1;jam1 1;half1;half1;half1;half1;signs1;"), 9);
        due("4: a line that ends with the 160th byte", Check.tell(new WatchDogs(), " ".repeat(153) + "half 5;"), 1);
        WatchDogs x = Check.told(MOST);
        for (int i = 0; i < 16; i++) {
            due("4: sign(" + i + ")", x.sign(i), i);
        }
        for (int d = 0; d < 4; d++) {
            due("4: KIND of " + d, x.dog(d, 0), d);
            due("4: LIMIT of " + d, x.dog(d, 1), d + 1);
            due("4: COUNT of " + d + " is 0 at first", x.dog(d, 2), 0);
            due("4: BARKS of " + d + " is 0 at first", x.dog(d, 3), 0);
            due("4: JAM " + d, 100 * x.jam(d, 0) + x.jam(d, 1), 101 * d + 1);
        }
    }

    /** A text that is taken: in place of what there was, nothing is SEEN, IMAGES are gone; SHEETS are no part of it. */
    private static void taken() {
        for (String text : new String[] {"", " ", "plain 3;", "signs 1;", "jam 3 4;", MOST}) {
            WatchDogs x = Twin.of(RICH);
            x.keep(0);
            x.end(0);
            Check.holds("4: taken: " + text, Check.tell(x, text) >= 0);
            due("4: TAPE is empty then", x.count(2), 0);
            due("5: fault()", x.fault(), 0);
            WatchDogs y = Check.told(text);
            for (int what = 0; what <= 8; what++) {
                due("4: rule(" + what + ") of " + text, x.rule(what), y.rule(what));
            }
            due("4: a DOG more, not one beside those that were", x.dog(0, 1), y.dog(0, 1));
            due("4: COUNT of " + text, x.dog(0, 2), y.dog(0, 2));
            due("4: BARKS of " + text, x.dog(1, 3), y.dog(1, 3));
            due("4: SIGNS of " + text, x.count(5), y.count(5));
            due("4: nothing is SEEN", x.count(0), 0);
            due("4: IMAGES are gone", x.count(1), 0);
            due("4: IMAGE 0 is gone", x.back(0), -2);
            due("4: IMAGE 1 is gone", x.back(1), -2);
            due("4: SHEET 0 stays", x.count(3), 4);
            due("39: torn() stays", x.torn(), 2);
        }
    }

    /** A FAULT: TAPE is empty then, all else is as it was. */
    private static void faulty(String text, int fault, int place) {
        Twin.Made before = x -> {
            Twin.rich(x);
            x.end(0);
        };
        Twin.Made behind = x -> {
            before.by(x);
            Check.tell(x, text);
        };
        WatchDogs x = Twin.of(before);
        due("4: text() of \"" + text + "\"", Check.tell(x, text), -10 - place);
        due("5: fault() of \"" + text + "\"", x.fault(), fault);
        due("4: TAPE is empty behind \"" + text + "\"", x.count(2), 0);
        Twin.alike("4: what was told stays behind \"" + text + "\"", behind, before);
    }

    private static void good(String text, int lines) {
        WatchDogs x = Twin.of(RICH);
        x.end(0);
        due("4: text() of \"" + text + "\"", Check.tell(x, text), lines);
        due("5: fault() of \"" + text + "\"", x.fault(), 0);
    }

    // ---- FAULT 1

    private static void noTokens() {
        for (int c = 0; c < 128; c++) {
            WatchDogs x = Check.told("half 6;");
            String text = "plain 3;" + (char) c;
            boolean letter = c >= 'a' && c <= 'z';
            boolean figure = c >= '0' && c <= '9';
            if (c == ' ') {
                due("4: a blank", Check.tell(x, text), 1);
            } else {
                due("4: byte " + c + " behind a line", Check.tell(x, text), -18);
                due("5: byte " + c + " behind a line", x.fault(), letter || figure || c == ';' ? 2 : 1);
                due("4: byte " + c + ": the DOG stays", x.dog(0, 1), 6);
            }
        }
        // The neighbours of blank, figures, semicolon and letters.
        for (int c : new int[] {31, 33, 47, 58, 60, 96, 123, 0, 127}) {
            faulty("jam 1" + (char) c + "2;", 1, 5);
        }
        good("jam 1 2;", 1);
        good("plain 7;", 1);
        good("plain 07;", 1);
        good("plain 20;", 1);
        faulty("plain 007;", 1, 6);
        faulty("plain 200;", 1, 6);
        faulty("signs 000;", 1, 6);
        faulty("jam 100 1;", 1, 4);
        faulty("jam 0 001;", 1, 6);
        faulty("plain 12345678901234567890;", 1, 6);
        faulty("plain 4294967297;", 1, 6);
        faulty("123", 1, 0);
        faulty("plain 7 123;", 1, 8);
        faulty("plain 7;123", 1, 8);
        // Each TOKEN as long as may be, with no blank between.
        good("plain7;window8;signs1 2;jam3 4;", 4);
        faulty("plain7;window8;signs12 345;jam3 4;", 1, 23);
        faulty("PLAIN 7;", 1, 0);
        faulty("plaiN 7;", 2, 0);
    }

    // ---- FAULT 2

    private static void misplaced() {
        // Where a line begins.
        faulty("7;", 2, 0);
        faulty(";", 2, 0);
        faulty("a", 2, 0);
        faulty("z 1;", 2, 0);
        faulty("sign 1;", 2, 0);
        faulty("signss 1;", 2, 0);
        faulty("ja 1 2;", 2, 0);
        faulty("jams 1 2;", 2, 0);
        faulty("hal 2;", 2, 0);
        faulty("halff 2;", 2, 0);
        faulty("twic 2;", 2, 0);
        faulty("twices 2;", 2, 0);
        faulty("windows 2;", 2, 0);
        faulty("plainplain 2;", 2, 0);
        good("plain 7 ; half 1 ;", 2);
        for (String name : KINDS) {
            int at = name.length();
            faulty(name, 2, at);
            faulty(name + ";", 2, at);
            faulty(name + " plain;", 2, at + 1);
            faulty(name + " 5", 2, at + 2);
            faulty(name + " 5 5;", 2, at + 3);
            faulty(name + " 5 " + name, 2, at + 3);
            good(name + " 5;", 1);
        }
        // A NAME is known by all its letters: another first one, another last one, one less, one more.
        for (String name : new String[] {"plain", "window", "twice", "half", "signs", "jam"}) {
            int last = name.length() - 1;
            faulty("x" + name.substring(1) + " 5 5;", 2, 0);
            faulty(name.substring(0, last) + "x 5 5;", 2, 0);
            faulty(name.substring(0, last) + " 5 5;", 2, 0);
            faulty(name.substring(1) + " 5 5;", 2, 0);
            faulty(name + name.charAt(last) + " 5 5;", 2, 0);
            faulty(name.charAt(0) + name + " 5 5;", 2, 0);
        }
        faulty("signs", 2, 5);
        faulty("signs;", 2, 5);
        faulty("signs half;", 2, 6);
        faulty("signs 1", 2, 7);
        faulty("signs 1 half;", 2, 8);
        faulty("signs 1 signs;", 2, 8);
        faulty("jam", 2, 3);
        faulty("jam;", 2, 3);
        faulty("jam x", 2, 4);
        faulty("jam 5", 2, 5);
        faulty("jam 5;", 2, 5);
        faulty("jam 5 x", 2, 6);
        faulty("jam 5 6", 2, 7);
        faulty("jam 5 6 7;", 2, 8);
        faulty("jam 5 6 jam 5 6;", 2, 8);
        faulty("half 5;;", 2, 7);
        faulty("half 5; x", 2, 8);
        faulty("half 5; 5", 2, 8);
        // The end: the length, with the blanks ahead of it.
        faulty("jam  5  ", 2, 8);
        faulty(SIXTEEN, 2, 37);
    }

    // ---- FAULT 3

    private static void outOfBounds() {
        for (String name : KINDS) {
            int at = name.length() + 1;
            faulty(name + " 0;", 3, at);
            faulty(name + " 00;", 3, at);
            good(name + " 1;", 1);
            good(name + " 20;", 1);
            faulty(name + " 21;", 3, at);
            faulty(name + " 99;", 3, at);
        }
        good("signs 0;", 1);
        good("signs 15;", 1);
        faulty("signs 16;", 3, 6);
        faulty("signs 99;", 3, 6);
        faulty("signs 0 15 16 0;", 3, 11);
        faulty("signs 0 0 0 0 0 0 0 0 0 0 0 0 0 0 0 16;", 3, 36);
        good("signs 0 0 0 0 0 0 0 0 0 0 0 0 0 0 0 15;", 1);
        good("jam 0 1;", 1);
        good("jam 99 40;", 1);
        good("jam 00 01;", 1);
        faulty("jam 0 0;", 3, 6);
        faulty("jam 99 41;", 3, 7);
        faulty("jam 50 99;", 3, 7);
    }

    // ---- FAULTS 4, 5

    private static void tooMany() {
        good("plain 1;signs 1;", 2);
        faulty("signs 1;signs 1;", 4, 8);
        faulty("signs 0;plain 1;  signs 0;", 4, 18);
        faulty(SIXTEEN + ";signs 1;", 4, 38);
        String four = "plain 1;plain 1;plain 1;plain 1;";
        good(four, 4);
        for (String name : KINDS) {
            good("window 1;twice 1;half 1;" + name + " 1;", 4);
            faulty("window 1;twice 1;half 1;plain 1; " + name + " 1;", 5, 33);
        }
        good(four + "signs 1;jam 1 1;", 6);
        good("jam 1 1;jam 1 1;jam 1 1;jam 1 1;", 4);
        faulty("jam 1 1;jam 1 1;jam 1 1;jam 1 1;jam 1 1;", 5, 32);
        good(SIXTEEN + ";", 1);
        faulty(SIXTEEN + " 0;", 5, 38);
        faulty(SIXTEEN + " 15;", 5, 38);
        faulty(SIXTEEN + " 16;", 5, 38);
        faulty(SIXTEEN + " 99;", 5, 38);
        faulty(SIXTEEN + " 0 0 0;", 5, 38);
    }

    /** A TOKEN is read when the one before has been taken. */
    private static void firstMet() {
        String four = "plain 1;plain 1;plain 1;plain 1;";
        faulty("plain 21?", 3, 6);
        faulty("plain 21 21", 3, 6);
        faulty("plain 20?", 1, 8);
        faulty("plain?", 1, 5);
        faulty("x?", 2, 0);
        faulty("5?", 2, 0);
        faulty(";?", 2, 0);
        faulty("signs 1;signs?", 4, 8);
        faulty("signs 1;signs 16;", 4, 8);
        faulty(four + "half?", 5, 32);
        faulty(four + "half 21;", 5, 32);
        faulty(four + "half 100;", 5, 32);
        faulty(four + "halff 1;", 2, 32);
        faulty("jam 1 1;jam 1 1;jam 1 1;jam 1 1;jam 1 0;", 5, 32);
        faulty("jam 1 1;jam 1 1;jam 1 1;jam 1 1;jam?", 5, 32);
        faulty("jam 1 0?", 3, 6);
        faulty("jam 100 0;", 1, 4);
        faulty(SIXTEEN + " 1?", 5, 38);
        faulty(SIXTEEN + " ?", 1, 38);
        faulty(SIXTEEN + " half", 2, 38);
        faulty(SIXTEEN + " 100;", 1, 38);
        faulty("plain 5;signs 16;half 0;?", 3, 14);
        faulty("plain 5;half 0;signs 16;?", 3, 13);
    }

    // ---- promise 5

    private static void faultStays() {
        String[] texts = {"?", ";", "half 0;", "signs 1;signs 1;", SIXTEEN + " 1;"};
        for (int i = 0; i < texts.length; i++) {
            WatchDogs x = new WatchDogs();
            Check.tell(x, texts[i]);
            due("5: fault() is asked twice", x.fault(), x.fault());
            due("5: FAULT", x.fault(), i + 1);
            x.feed('?');
            x.feed(128);
            x.end(0);
            x.end(-1);
            x.keep(0);
            x.back(0);
            x.ticks(1);
            due("5: until the latest text()", x.fault(), i + 1);
            Check.tell(x, "half 1;");
            due("5: 0 behind one that is taken", x.fault(), 0);
            Check.tell(x, texts[i]);
            due("5: the latest", x.fault(), i + 1);
            x.text();
            due("5: 0 behind an empty one", x.fault(), 0);
        }
    }

    // ---- promises 6 to 9

    private static void rule() {
        Twin.bounds("6: rule", RICH, WatchDogs::rule, 0, 8);
        WatchDogs x = Twin.of(RICH);
        int[] want = {4, 5, 2, 7, 1, 2, 1, 3, 3};
        for (int what = 0; what <= 8; what++) {
            int asked = what;
            due("6: rule(" + what + ")", x.rule(what), want[what]);
            Twin.unchanged("6: rule(" + what + ")", RICH, y -> y.rule(asked));
        }
        WatchDogs most = Check.told(MOST);
        due("6: four DOGS", most.rule(0), 4);
        due("6: sixteen SIGNS", most.rule(1), 16);
        due("6: four JAMS", most.rule(2), 4);
        due("6: LAST is none", most.rule(7), NONE);
    }

    private static void dog() {
        for (int dogs = 1; dogs <= 4; dogs++) {
            Twin.bounds("7: dog of " + dogs, told("half 3;".repeat(dogs)), (x, d) -> x.dog(d, 1), 0, dogs - 1);
        }
        Twin.bounds("7: dog(3, what)", RICH, (x, what) -> x.dog(3, what), 0, 3);
        Twin.refusedWith("7: dog of none", told("signs 1;"), (x, d) -> x.dog(d, 0), -1, 0);
        int[][] want = {{3, 7, 3, 0}, {2, 2, 1, 1}, {0, 8, 2, 0}, {1, 9, 4, 0}};
        for (int d = 0; d < 4; d++) {
            for (int what = 0; what <= 3; what++) {
                due("7: dog(" + d + ", " + what + ")", Twin.of(RICH).dog(d, what), want[d][what]);
            }
        }
    }

    private static void sign() {
        Twin.refusedWith("8: sign of none", told("plain 1;"), WatchDogs::sign, -1, 0);
        Twin.bounds("8: sign of one", told("signs 0;"), WatchDogs::sign, 0, 0);
        Twin.bounds("8: sign of five", RICH, WatchDogs::sign, 0, 4);
        Twin.bounds("8: sign of sixteen", told(MOST), WatchDogs::sign, 0, 15);
        due("8: the first", Twin.of(RICH).sign(0), 1);
        due("8: the last", Twin.of(RICH).sign(4), 7);
    }

    private static void jam() {
        for (int jams = 1; jams <= 4; jams++) {
            Twin.bounds("9: jam of " + jams, told("jam 3 4;".repeat(jams)), (x, i) -> x.jam(i, 1), 0, jams - 1);
        }
        Twin.bounds("9: jam(1, what)", RICH, (x, what) -> x.jam(1, what), 0, 1);
        Twin.refusedWith("9: jam of none", told("plain 1;"), (x, i) -> x.jam(i, 0), -1, 0);
        due("9: jam(0, 0)", Twin.of(RICH).jam(0, 0), 5);
        due("9: jam(1, 1)", Twin.of(RICH).jam(1, 1), 3);
    }
}
