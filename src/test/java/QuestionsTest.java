/** Promises 8 to 13: has, count, atLeast, atMost, stretches and within. */
public final class QuestionsTest {
    private static final int LEAST = Integer.MIN_VALUE;
    private static final int MOST = Integer.MAX_VALUE;
    private static final int[] WRONG = {-1, 4, 5, 1000, LEAST, MOST};

    public static void main(String[] args) {
        having();
        counting();
        searchingUp();
        searchingDown();
        stretching();
        beingWithin();
        wrongRanges();
        nothingChanges();
        Checks.end();
    }

    private static void having() {
        for (int v = 0; v <= 999; v++) {
            SemverRanges x = new SemverRanges();
            Checks.set(x, 1, "1.2.3-4.5|^8.7");
            boolean want = v >= 123 && v <= 459 || v >= 870 && v <= 899;
            Checks.due("has(1, " + v + ")", x.has(1, v), want);
            Checks.due("has(2, " + v + ")", x.has(2, v), false);
        }
        SemverRanges x = new SemverRanges();
        for (int r = 0; r < 4; r++) {
            Checks.set(x, r, "*");
        }
        int[] outside = {-1, -999, -1000, 1000, 1001, 1999, 4000, LEAST, MOST};
        for (int r = 0; r < 4; r++) {
            Checks.due("has(" + r + ", 0)", x.has(r, 0), true);
            Checks.due("has(" + r + ", 999)", x.has(r, 999), true);
            for (int v : outside) {
                Checks.due("has(" + r + ", " + v + ")", x.has(r, v), false);
            }
        }
    }

    private static void counting() {
        SemverRanges x = new SemverRanges();
        Checks.due("count of nothing", x.count(3), 0);
        Checks.set(x, 3, "*");
        Checks.due("count of all", x.count(3), 1000);
        Checks.set(x, 3, "0.0.0|9.9.9");
        Checks.due("count of both ends", x.count(3), 2);
        Checks.set(x, 3, "1|2.2|3.3.3");
        Checks.due("count of three stretches", x.count(3), 111);
    }

    private static void searchingUp() {
        SemverRanges x = new SemverRanges();
        Checks.set(x, 0, "1.2.3|4.5|9.9.9");
        int[][] rows = {
            {LEAST, 123}, {-1, 123}, {0, 123}, {122, 123}, {123, 123}, {124, 450}, {449, 450}, {450, 450}, {455, 455},
            {459, 459}, {460, 999}, {999, 999}, {1000, Checks.NONE}, {MOST, Checks.NONE},
        };
        for (int[] row : rows) {
            Checks.due("atLeast(0, " + row[0] + ")", x.atLeast(0, row[0]), row[1]);
        }
        Checks.set(x, 1, "0.0.0");
        Checks.due("atLeast(1, least)", x.atLeast(1, LEAST), 0);
        Checks.due("atLeast(1, 0)", x.atLeast(1, 0), 0);
        Checks.due("atLeast(1, 1)", x.atLeast(1, 1), Checks.NONE);
        Checks.due("atLeast of an empty range", x.atLeast(2, LEAST), Checks.NONE);
        Checks.set(x, 3, "*");
        Checks.due("atLeast does not look into the next range", x.atLeast(2, 0), Checks.NONE);
    }

    private static void searchingDown() {
        SemverRanges x = new SemverRanges();
        Checks.set(x, 1, "0.0.0|4.5|8.7.6");
        int[][] rows = {
            {MOST, 876}, {1000, 876}, {999, 876}, {876, 876}, {875, 459}, {460, 459}, {459, 459}, {455, 455},
            {450, 450}, {449, 0}, {1, 0}, {0, 0}, {-1, Checks.NONE}, {LEAST, Checks.NONE},
        };
        for (int[] row : rows) {
            Checks.due("atMost(1, " + row[0] + ")", x.atMost(1, row[0]), row[1]);
        }
        Checks.set(x, 0, "9.9.9");
        Checks.due("atMost(0, most)", x.atMost(0, MOST), 999);
        Checks.due("atMost(0, 999)", x.atMost(0, 999), 999);
        Checks.due("atMost(0, 998)", x.atMost(0, 998), Checks.NONE);
        Checks.due("atMost of an empty range", x.atMost(2, MOST), Checks.NONE);
        Checks.due("atMost does not look into the range before", x.atMost(1, -1), Checks.NONE);
    }

    private static void stretching() {
        SemverRanges x = new SemverRanges();
        Checks.due("stretches of nothing", x.stretches(0), 0);
        dueStretches(x, "*", 1);
        dueStretches(x, "1|2", 1);
        dueStretches(x, "1.2.9|1.3.0", 1);
        dueStretches(x, "1.2.8|1.3.0", 2);
        dueStretches(x, "0.0.0|9.9.9", 2);
        dueStretches(x, "0.0.1|9.9.8", 2);
        dueStretches(x, "1.1.1|1.1.1", 1);
        dueStretches(x, "0.0.0|0.0.2|0.0.4|0.0.6|0.0.8", 5);
        dueStretches(x, "0|2|4|6|8", 5);
        dueStretches(x, "2-1", 0);
        Checks.set(x, 1, "9.9.9");
        Checks.set(x, 2, "0.0.0");
        Checks.due("stretches do not run on from range 0", x.stretches(1), 1);
        Checks.due("stretches do not run on from range 1", x.stretches(2), 1);
    }

    private static void dueStretches(SemverRanges x, String text, int want) {
        Checks.set(x, 0, text);
        Checks.due("stretches of \"" + text + "\"", x.stretches(0), want);
    }

    private static void beingWithin() {
        SemverRanges x = new SemverRanges();
        Checks.set(x, 0, "1.2-1.8");
        Checks.set(x, 1, "1");
        Checks.set(x, 2, "1.8-2");
        Checks.due("a smaller one", x.within(0, 1), true);
        Checks.due("a larger one", x.within(1, 0), false);
        Checks.due("one that laps over", x.within(0, 2), false);
        Checks.due("one that laps over, the other way", x.within(2, 0), false);
        Checks.due("nothing in something", x.within(3, 0), true);
        Checks.due("something in nothing", x.within(0, 3), false);
        Checks.due("nothing in nothing", x.within(3, 3), true);
        for (int r = 0; r < 4; r++) {
            Checks.due("within itself", x.within(r, r), true);
        }
        Checks.set(x, 3, "*");
        Checks.set(x, 0, "<9.9.9");
        Checks.due("all in all but the last", x.within(3, 0), false);
        Checks.due("all but the last in all", x.within(0, 3), true);
        Checks.set(x, 0, ">0.0.0");
        Checks.due("all in all but the first", x.within(3, 0), false);
        Checks.set(x, 0, "1|3|5");
        Checks.set(x, 1, "0-3|5-6");
        Checks.due("three stretches in two", x.within(0, 1), true);
        Checks.set(x, 1, "0-3|5-6 <5.9.9");
        Checks.due("three stretches not quite in two", x.within(0, 1), false);
    }

    private static void wrongRanges() {
        SemverRanges x = new SemverRanges();
        for (int r = 0; r < 4; r++) {
            Checks.set(x, r, "*");
        }
        for (int n : WRONG) {
            Checks.due("has(" + n + ", 5)", x.has(n, 5), false);
            Checks.due("has(" + n + ", -1)", x.has(n, -1), false);
            Checks.due("has(" + n + ", 1000)", x.has(n, 1000), false);
            Checks.due("count(" + n + ")", x.count(n), Checks.BAD);
            Checks.due("atLeast(" + n + ", 5)", x.atLeast(n, 5), Checks.BAD);
            Checks.due("atLeast(" + n + ", 1000)", x.atLeast(n, 1000), Checks.BAD);
            Checks.due("atMost(" + n + ", 5)", x.atMost(n, 5), Checks.BAD);
            Checks.due("atMost(" + n + ", -1)", x.atMost(n, -1), Checks.BAD);
            Checks.due("stretches(" + n + ")", x.stretches(n), Checks.BAD);
            Checks.due("within(" + n + ", 0)", x.within(n, 0), false);
            Checks.due("within(0, " + n + ")", x.within(0, n), false);
            Checks.due("within(" + n + ", " + n + ")", x.within(n, n), false);
        }
        SemverRanges empty = new SemverRanges();
        Checks.due("an empty range within range 4", empty.within(0, 4), false);
        Checks.due("range 4 within an empty range", empty.within(4, 0), false);
    }

    private static void nothingChanges() {
        SemverRanges x = new SemverRanges();
        Checks.set(x, 0, "3.3");
        Checks.type(x, "^1.2");
        for (int round = 0; round < 2; round++) {
            x.has(0, 330);
            x.count(0);
            x.atLeast(0, 5);
            x.atMost(0, 5);
            x.stretches(0);
            x.within(0, 1);
            Checks.dueSpan("after questions", x, 0, 330, 339);
            Checks.dueEmpty("after questions", x, 1);
        }
        Checks.due("the text stays", x.read(1), 80);
    }
}
