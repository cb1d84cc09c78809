/** Promises 8 to 13, sentence by sentence: has, count, atLeast, atMost, stretches and within. */
public final class QuestionsTest {
    private static final int LEAST = Checks.LEAST;
    private static final int MOST = Checks.MOST;

    public static void main(String[] args) {
        Checks.sentence("8: Whether a version (0..999) is in range r", QuestionsTest::having);
        Checks.sentence("8: false for numbers out of range: the version", QuestionsTest::havingNoVersion);
        Checks.sentence("8: false for numbers out of range: r", QuestionsTest::havingInNoRange);
        Checks.sentence("9: The number of versions in range r", QuestionsTest::counting);
        Checks.sentence("9: BAD for r outside 0..3", QuestionsTest::countOfNoRange);
        Checks.sentence("10: The smallest version that is at least the given one", QuestionsTest::searchingUp);
        Checks.sentence("10: (any int)", QuestionsTest::searchingUpFromAnyInt);
        Checks.sentence("10: NONE if there is none", QuestionsTest::noneAbove);
        Checks.sentence("10: BAD for r outside 0..3", QuestionsTest::searchingUpNoRange);
        Checks.sentence("11: The greatest version that is at most the given one", QuestionsTest::searchingDown);
        Checks.sentence("11: (any int)", QuestionsTest::searchingDownFromAnyInt);
        Checks.sentence("11: NONE if there is none", QuestionsTest::noneBelow);
        Checks.sentence("11: BAD for r outside 0..3", QuestionsTest::searchingDownNoRange);
        Checks.sentence("12: The number of stretches of range r", QuestionsTest::stretching);
        Checks.sentence("12: a largest run of versions, one directly after the other", QuestionsTest::neighbours);
        Checks.sentence("12: BAD for r outside 0..3", QuestionsTest::stretchesOfNoRange);
        Checks.sentence("13: Whether every version of range a is in range b", QuestionsTest::beingWithin);
        Checks.sentence("13: (an empty range a)", QuestionsTest::emptyWithin);
        Checks.sentence("13: false for numbers out of range", QuestionsTest::withinNoRange);
        Checks.sentence("8 to 13: (a question changes nothing)", QuestionsTest::nothingChanges);
        Checks.end();
    }

    private static SemverRanges withAll() {
        return Checks.with("*", "*", "*", "*");
    }

    private static void having() {
        for (int v = 0; v <= 999; v++) {
            SemverRanges x = Checks.with("", "1.2.3-4.5|^8.7");
            boolean want = v >= 123 && v <= 459 || v >= 870 && v <= 899;
            Checks.due("has(1, " + v + ")", x.has(1, v), want);
            Checks.due("has(2, " + v + ")", x.has(2, v), false);
        }
        SemverRanges x = withAll();
        SemverRanges ends = Checks.with("0.0.0", "9.9.9");
        for (int r = 0; r < 4; r++) {
            Checks.due("has(" + r + ", 0)", x.has(r, 0), true);
            Checks.due("has(" + r + ", 999)", x.has(r, 999), true);
            Checks.due("has(" + r + ", 0) of the ends", ends.has(r, 0), r == 0);
            Checks.due("has(" + r + ", 999) of the ends", ends.has(r, 999), r == 1);
        }
    }

    private static void havingNoVersion() {
        int[] outside = {-1, -2, -999, -1000, 1000, 1001, 1999, 4000, 65536, LEAST, LEAST + 1, MOST};
        SemverRanges x = withAll();
        for (int r = 0; r < 4; r++) {
            for (int v : outside) {
                Checks.due("has(" + r + ", " + v + ")", x.has(r, v), false);
            }
        }
    }

    private static void havingInNoRange() {
        for (int n : Checks.noRanges()) {
            SemverRanges x = withAll();
            int[] versions = {0, 5, 999, -1, 1000, 1005, -995, -3000, LEAST, MOST};
            for (int v : versions) {
                Checks.due("has(" + n + ", " + v + ")", x.has(n, v), false);
            }
        }
    }

    private static void counting() {
        String[] texts = {"2-1", "1.2.3", "0.0.0|9.9.9", "1|2.2|3.3.3", "1-4|3-6", ">0.0.0", "<9.9.9", "*"};
        int[] numbers = {0, 1, 2, 111, 600, 999, 999, 1000};
        for (int r = 0; r < 4; r++) {
            SemverRanges x = new SemverRanges();
            Checks.due("count(" + r + ") of a new range", x.count(r), 0);
            for (int i = 0; i < texts.length; i++) {
                Checks.set(x, r, texts[i]);
                Checks.due("count(" + r + ") of \"" + texts[i] + "\"", x.count(r), numbers[i]);
            }
            Checks.due("another range", x.count((r + 1) % 4), 0);
        }
    }

    private static void countOfNoRange() {
        for (int n : Checks.noRanges()) {
            Checks.due("count(" + n + ")", withAll().count(n), Checks.BAD);
            Checks.due("count(" + n + ") of a new object", new SemverRanges().count(n), Checks.BAD);
        }
    }

    private static void searchingUp() {
        SemverRanges x = Checks.with("1.2.3|4.5|9.9.9");
        int[][] rows = {
            {0, 123}, {122, 123}, {123, 123}, {124, 450}, {449, 450}, {450, 450}, {455, 455}, {459, 459}, {460, 999}, {999, 999},
        };
        dueAbove(x, 0, rows);
        dueAbove(Checks.with("", "", "", "0.0.0"), 3, new int[][] {{0, 0}, {1, Checks.NONE}});
    }

    private static void searchingUpFromAnyInt() {
        dueAbove(Checks.with("0.0.0"), 0, new int[][] {{-1, 0}, {-1000, 0}, {-1001, 0}, {LEAST, 0}, {LEAST + 1, 0}});
        dueAbove(Checks.with("", "9.9.9"), 1, new int[][] {{-1, 999}, {-2, 999}, {LEAST, 999}});
        int[][] beyond = {{1000, Checks.NONE}, {1001, Checks.NONE}, {4000, Checks.NONE}, {MOST - 1, Checks.NONE}, {MOST, Checks.NONE}};
        for (int r = 0; r < 4; r++) {
            dueAbove(withAll(), r, beyond);
        }
    }

    private static void noneAbove() {
        dueAbove(Checks.with("1.2.3"), 0, new int[][] {{123, 123}, {124, Checks.NONE}, {999, Checks.NONE}});
        dueAbove(Checks.with("<9.9.9"), 0, new int[][] {{998, 998}, {999, Checks.NONE}});
        // The neighbours are full: the search must not run on into them.
        SemverRanges x = Checks.with("*", "2-1", "*", "*");
        dueAbove(x, 1, new int[][] {{LEAST, Checks.NONE}, {-1, Checks.NONE}, {0, Checks.NONE}, {999, Checks.NONE}, {MOST, Checks.NONE}});
    }

    private static void searchingUpNoRange() {
        int[] versions = {0, 5, 999, 1000, -1, 1005, LEAST, MOST};
        for (int n : Checks.noRanges()) {
            for (int v : versions) {
                Checks.due("atLeast(" + n + ", " + v + ")", withAll().atLeast(n, v), Checks.BAD);
                Checks.due("atLeast(" + n + ", " + v + ") of a new object", new SemverRanges().atLeast(n, v), Checks.BAD);
            }
        }
    }

    private static void searchingDown() {
        SemverRanges x = Checks.with("", "0.0.0|4.5|8.7.6");
        int[][] rows = {
            {999, 876}, {877, 876}, {876, 876}, {875, 459}, {460, 459}, {459, 459}, {455, 455}, {450, 450}, {449, 0}, {1, 0}, {0, 0},
        };
        dueBelow(x, 1, rows);
        dueBelow(Checks.with("9.9.9"), 0, new int[][] {{999, 999}, {998, Checks.NONE}});
    }

    private static void searchingDownFromAnyInt() {
        dueBelow(Checks.with("9.9.9"), 0, new int[][] {{1000, 999}, {1001, 999}, {4000, 999}, {MOST, 999}, {MOST - 1, 999}});
        dueBelow(Checks.with("", "0.0.0"), 1, new int[][] {{1000, 0}, {1999, 0}, {MOST, 0}});
        int[][] beyond = {{-1, Checks.NONE}, {-2, Checks.NONE}, {-1000, Checks.NONE}, {LEAST + 1, Checks.NONE}, {LEAST, Checks.NONE}};
        for (int r = 0; r < 4; r++) {
            dueBelow(withAll(), r, beyond);
        }
    }

    private static void noneBelow() {
        dueBelow(Checks.with("1.2.3"), 0, new int[][] {{123, 123}, {122, Checks.NONE}, {0, Checks.NONE}});
        dueBelow(Checks.with(">0.0.0"), 0, new int[][] {{1, 1}, {0, Checks.NONE}});
        // The neighbours are full: the search must not run on into them.
        SemverRanges x = Checks.with("*", "*", "2-1", "*");
        dueBelow(x, 2, new int[][] {{MOST, Checks.NONE}, {1000, Checks.NONE}, {999, Checks.NONE}, {0, Checks.NONE}, {LEAST, Checks.NONE}});
    }

    private static void searchingDownNoRange() {
        int[] versions = {0, 5, 999, 1000, -1, -995, LEAST, MOST};
        for (int n : Checks.noRanges()) {
            for (int v : versions) {
                Checks.due("atMost(" + n + ", " + v + ")", withAll().atMost(n, v), Checks.BAD);
                Checks.due("atMost(" + n + ", " + v + ") of a new object", new SemverRanges().atMost(n, v), Checks.BAD);
            }
        }
    }

    /** Each row is a version and the answer that is due. */
    private static void dueAbove(SemverRanges x, int r, int[][] rows) {
        for (int[] row : rows) {
            Checks.due("atLeast(" + r + ", " + row[0] + ")", x.atLeast(r, row[0]), row[1]);
        }
    }

    private static void dueBelow(SemverRanges x, int r, int[][] rows) {
        for (int[] row : rows) {
            Checks.due("atMost(" + r + ", " + row[0] + ")", x.atMost(r, row[0]), row[1]);
        }
    }

    private static void stretching() {
        SemverRanges x = new SemverRanges();
        for (int r = 0; r < 4; r++) {
            Checks.due("stretches(" + r + ") of a new range", x.stretches(r), 0);
        }
        dueStretches("2-1", 0);
        dueStretches("*", 1);
        dueStretches("0.0.0", 1);
        dueStretches("9.9.9", 1);
        dueStretches("0.0.0|9.9.9", 2);
        dueStretches("0.0.1|9.9.8", 2);
        dueStretches("0|2|4|6|8", 5);
        dueStretches("1|3|5|7|9", 5);
        dueStretches("0.0.0|0.0.2|0.0.4|0.0.6|0.0.8", 5);
        SemverRanges y = new SemverRanges();
        for (int i = 0; i < 24; i++) {
            Checks.set(y, 0, i / 10 + "." + i % 10 + ".0");
            y.join(1, 0, 1);
            Checks.due("stretches(1) of " + (i + 1), y.stretches(1), i + 1);
        }
    }

    private static void neighbours() {
        dueStretches("1|2", 1);
        dueStretches("0.9.9|1.0.0", 1);
        dueStretches("1.0.0|0.9.9", 1);
        dueStretches("1.2.9|1.3.0", 1);
        dueStretches("1.2.8|1.3.0", 2);
        dueStretches("1.2.3|1.2.4", 1);
        dueStretches("1.2.3|1.2.5", 2);
        dueStretches("1.1.1|1.1.1", 1);
        dueStretches("1.2.3|1.2.5|1.2.4", 1);
        dueStretches("1-3|2", 1);
        dueStretches("1.5-3|1-2", 1);
        SemverRanges x = Checks.with("9.9.9", "9.9.9", "0.0.0", "0.0.0");
        for (int r = 0; r < 4; r++) {
            Checks.due("stretches(" + r + ") do not run on from range to range", x.stretches(r), 1);
        }
    }

    private static void dueStretches(String text, int want) {
        Checks.due("stretches of \"" + text + "\"", Checks.with(text).stretches(0), want);
    }

    private static void stretchesOfNoRange() {
        for (int n : Checks.noRanges()) {
            Checks.due("stretches(" + n + ")", withAll().stretches(n), Checks.BAD);
            Checks.due("stretches(" + n + ") of a new object", new SemverRanges().stretches(n), Checks.BAD);
        }
    }

    private static void beingWithin() {
        dueWithin("1.2-1.8", "1", true);
        dueWithin("1", "1.2-1.8", false);
        dueWithin("1.2-1.8", "1.8-2", false);
        dueWithin("1.8-2", "1.2-1.8", false);
        dueWithin("1", "2", false);
        dueWithin("1.2.3", "1.2.3", true);
        dueWithin("1.2.3", "1.2.4", false);
        dueWithin("*", "*", true);
        dueWithin("*", "<9.9.9", false);
        dueWithin("*", ">0.0.0", false);
        dueWithin("<9.9.9", "*", true);
        dueWithin("*", "<5.5.5|>5.5.5", false);
        dueWithin("5.5.5", "<5.5.5|>5.5.5", false);
        dueWithin("1|3|5", "0-3|5-6", true);
        dueWithin("1|3|5", "0-3|5-6 <5.9.9", false);
        dueWithin("1|3|5", "1.0.1-6", false);
        dueWithin("1.2-1.3", "1.2|1.3", true);
        SemverRanges x = Checks.with("1", "0-3", "2-4", "9");
        for (int a = 0; a < 4; a++) {
            for (int b = 0; b < 4; b++) {
                Checks.due("within(" + a + ", " + b + ")", x.within(a, b), a == b || a == 0 && b == 1);
            }
        }
    }

    private static void dueWithin(String a, String b, boolean want) {
        Checks.due("\"" + a + "\" within \"" + b + "\"", Checks.with(a, b).within(0, 1), want);
    }

    private static void emptyWithin() {
        SemverRanges x = Checks.with("1", "2-1", "*");
        Checks.due("nothing in something", x.within(1, 0), true);
        Checks.due("nothing in all", x.within(1, 2), true);
        Checks.due("nothing in other nothing", x.within(1, 3), true);
        Checks.due("nothing in itself", x.within(1, 1), true);
        Checks.due("something in nothing", x.within(0, 1), false);
        Checks.due("all in nothing", x.within(2, 3), false);
    }

    private static void withinNoRange() {
        SemverRanges[] objects = {new SemverRanges(), withAll()};
        for (SemverRanges x : objects) {
            for (int n : Checks.noRanges()) {
                Checks.due("within(" + n + ", 0)", x.within(n, 0), false);
                Checks.due("within(0, " + n + ")", x.within(0, n), false);
                Checks.due("within(" + n + ", 3)", x.within(n, 3), false);
                Checks.due("within(3, " + n + ")", x.within(3, n), false);
                Checks.due("within(" + n + ", " + n + ")", x.within(n, n), false);
            }
        }
    }

    private static void nothingChanges() {
        SemverRanges x = Checks.with("3.3");
        Checks.type(x, "^1.2");
        int[] ranges = {0, 1, -1, 4};
        for (int r : ranges) {
            x.has(r, 330);
            x.count(r);
            x.atLeast(r, 5);
            x.atMost(r, 5);
            x.stretches(r);
            x.within(0, r);
            x.within(r, 0);
            Checks.dueSpan("after questions", x, 0, 330, 339);
            Checks.dueEmpty("after questions", x, 1);
        }
        Checks.due("the text stays", x.read(1), 80);
    }
}
