/** Promises 5 to 7: meet, join and invert. */
public final class SetsTest {
    private static final int[] WRONG = {-1, 4, 5, Integer.MIN_VALUE, Integer.MAX_VALUE};

    // Twelve single versions each; EVEN and ODD together are 24 stretches, and no two of the 24 touch.
    private static final String[] EVEN = {"0.0.0|0.2.0|0.4.0|0.6.0|0.8.0|1.0.0", "1.2.0|1.4.0|1.6.0|1.8.0|2.0.0|2.2.0"};
    private static final String[] ODD = {"0.1.0|0.3.0|0.5.0|0.7.0|0.9.0|1.1.0", "1.3.0|1.5.0|1.7.0|1.9.0|2.1.0|2.3.0"};

    public static void main(String[] args) {
        meeting();
        joining();
        inverting();
        everyChoiceOfRanges();
        wrongNumbers();
        joinAtTheLimit();
        invertAtTheLimit();
        meetAtTheLimit();
        Checks.end();
    }

    private static void meeting() {
        SemverRanges x = new SemverRanges();
        Checks.set(x, 0, "1-3");
        Checks.set(x, 1, "2.5-8");
        Checks.set(x, 3, "9");
        Checks.due("meet(2, 0, 1)", x.meet(2, 0, 1), true);
        Checks.dueSpan("meet", x, 2, 250, 399);
        Checks.dueSpan("meet leaves a", x, 0, 100, 399);
        Checks.dueSpan("meet leaves b", x, 1, 250, 899);
        Checks.due("meet(2, 0, 3) of nothing shared", x.meet(2, 0, 3), true);
        Checks.dueEmpty("meet of nothing shared", x, 2);
        Checks.due("meet(2, 0, 0)", x.meet(2, 0, 0), true);
        Checks.dueSpan("meet with itself", x, 2, 100, 399);
        Checks.set(x, 3, "<1|>=3.9");
        Checks.due("meet(0, 0, 3) into a", x.meet(0, 0, 3), true);
        Checks.dueSpan("meet into a", x, 0, 390, 399);
        Checks.due("meet(1, 0, 1) into b", x.meet(1, 0, 1), true);
        Checks.dueSpan("meet into b", x, 1, 390, 399);
    }

    private static void joining() {
        SemverRanges x = new SemverRanges();
        Checks.set(x, 0, "1-3");
        Checks.set(x, 1, "2.5-8");
        Checks.set(x, 3, "0");
        Checks.due("join(2, 0, 1)", x.join(2, 0, 1), true);
        Checks.dueSpan("join", x, 2, 100, 899);
        Checks.dueSpan("join leaves a", x, 0, 100, 399);
        Checks.dueSpan("join leaves b", x, 1, 250, 899);
        Checks.due("join(2, 0, 3)", x.join(2, 0, 3), true);
        Checks.dueSpan("join of neighbours is one stretch", x, 2, 0, 399);
        Checks.set(x, 2, "4.0.1");
        Checks.due("join(2, 0, 2) into b", x.join(2, 0, 2), true);
        Checks.due("a gap of one parts two stretches", x.stretches(2), 2);
        Checks.due("count", x.count(2), 301);
        Checks.due("the gap", x.has(2, 400), false);
        Checks.due("join(0, 0, 3) into a", x.join(0, 0, 3), true);
        Checks.dueSpan("join into a", x, 0, 0, 399);
        Checks.due("join(1, 0, 0)", x.join(1, 0, 0), true);
        Checks.dueSpan("join with itself", x, 1, 0, 399);
    }

    private static void inverting() {
        SemverRanges x = new SemverRanges();
        Checks.due("invert(0, 1) of nothing", x.invert(0, 1), true);
        Checks.dueSpan("invert of nothing", x, 0, 0, 999);
        Checks.dueEmpty("invert leaves a", x, 1);
        Checks.due("invert(1, 0) of all", x.invert(1, 0), true);
        Checks.dueEmpty("invert of all", x, 1);
        Checks.set(x, 2, "<4.5.6");
        Checks.due("invert(2, 2) in place", x.invert(2, 2), true);
        Checks.dueSpan("invert in place", x, 2, 456, 999);
        Checks.set(x, 2, "0.0.0|9.9.9");
        Checks.due("invert(3, 2) of both ends", x.invert(3, 2), true);
        Checks.dueSpan("invert of both ends", x, 3, 1, 998);
        Checks.due("invert(0, 3)", x.invert(0, 3), true);
        Checks.due("inverted twice: count", x.count(0), 2);
        Checks.due("inverted twice: stretches", x.stretches(0), 2);
    }

    private static void everyChoiceOfRanges() {
        for (int d = 0; d < 4; d++) {
            for (int a = 0; a < 4; a++) {
                for (int b = 0; b < 4; b++) {
                    String call = "(" + d + ", " + a + ", " + b + ")";
                    int shared = a == b ? 200 : a + 1 == b || b + 1 == a ? 100 : 0;
                    SemverRanges x = steps();
                    Checks.due("meet" + call, x.meet(d, a, b), true);
                    dueSteps("meet" + call, x, d, shared);
                    x = steps();
                    Checks.due("join" + call, x.join(d, a, b), true);
                    dueSteps("join" + call, x, d, 400 - shared);
                }
                SemverRanges x = steps();
                Checks.due("invert(" + d + ", " + a + ")", x.invert(d, a), true);
                dueSteps("invert(" + d + ", " + a + ")", x, d, 800);
            }
        }
    }

    /** Range r is r.0.0 to (r + 1).9.9. */
    private static SemverRanges steps() {
        SemverRanges x = new SemverRanges();
        for (int r = 0; r < 4; r++) {
            Checks.set(x, r, r + "-" + (r + 1));
        }
        return x;
    }

    private static void dueSteps(String call, SemverRanges x, int changed, int count) {
        for (int r = 0; r < 4; r++) {
            if (r == changed) {
                Checks.due(call + ": count(" + r + ")", x.count(r), count);
            } else {
                Checks.dueSpan(call + " leaves", x, r, 100 * r, 100 * r + 199);
            }
        }
    }

    private static void wrongNumbers() {
        for (int n : WRONG) {
            SemverRanges x = steps();
            Checks.due("meet(" + n + ", 0, 1)", x.meet(n, 0, 1), false);
            Checks.due("meet(3, " + n + ", 1)", x.meet(3, n, 1), false);
            Checks.due("meet(3, 0, " + n + ")", x.meet(3, 0, n), false);
            Checks.due("join(" + n + ", 0, 1)", x.join(n, 0, 1), false);
            Checks.due("join(3, " + n + ", 1)", x.join(3, n, 1), false);
            Checks.due("join(3, 0, " + n + ")", x.join(3, 0, n), false);
            Checks.due("invert(" + n + ", 0)", x.invert(n, 0), false);
            Checks.due("invert(3, " + n + ")", x.invert(3, n), false);
            dueSteps("refused for " + n, x, -1, 0);
        }
    }

    private static void joinAtTheLimit() {
        SemverRanges x = new SemverRanges();
        fill(x, 0, EVEN);
        fill(x, 1, ODD);
        Checks.due("join to 24 stretches", x.join(2, 0, 1), true);
        Checks.due("24 stretches", x.stretches(2), 24);
        Checks.set(x, 3, "5.5.5");
        Checks.due("join to 25 stretches", x.join(3, 2, 3), false);
        Checks.dueSpan("refused: d stays", x, 3, 555, 555);
        Checks.due("join to 25 stretches in place", x.join(2, 2, 3), false);
        Checks.due("refused: stretches stay", x.stretches(2), 24);
        Checks.due("refused: count stays", x.count(2), 24);
        Checks.set(x, 3, "2.3.1");
        Checks.due("join of a neighbour", x.join(2, 2, 3), true);
        Checks.due("24 stretches still", x.stretches(2), 24);
        Checks.due("one version more", x.count(2), 25);
        Checks.set(x, 3, ">=0.5 <1.5");
        Checks.due("join over some of them", x.join(2, 2, 3), true);
        Checks.due("fewer stretches", x.stretches(2), 14);
    }

    private static void invertAtTheLimit() {
        SemverRanges x = new SemverRanges();
        fill(x, 0, EVEN);
        fill(x, 1, ODD);
        x.join(2, 0, 1);
        Checks.due("invert of 24 that begin at 0", x.invert(3, 2), true);
        Checks.due("24 gaps", x.stretches(3), 24);
        Checks.due("their count", x.count(3), 976);
        Checks.set(x, 0, ">0.0.0");
        Checks.set(x, 1, "0.0.5");
        x.meet(2, 2, 0);
        x.join(2, 2, 1);
        Checks.due("24 stretches inside", x.stretches(2), 24);
        Checks.set(x, 3, "7");
        Checks.due("invert to 25 stretches", x.invert(3, 2), false);
        Checks.dueSpan("refused: d stays", x, 3, 700, 799);
        Checks.due("invert to 25 stretches in place", x.invert(2, 2), false);
        Checks.due("refused: stretches stay", x.stretches(2), 24);
        Checks.due("refused: count stays", x.count(2), 24);
        Checks.due("refused: a stays", x.has(2, 5), true);
    }

    private static void meetAtTheLimit() {
        SemverRanges x = new SemverRanges();
        fill(x, 0, EVEN);
        x.invert(0, 0);
        fill(x, 1, ODD);
        x.invert(1, 1);
        Checks.due("12 stretches and 13", x.stretches(0) + x.stretches(1), 25);
        Checks.due("meet to 24 stretches", x.meet(2, 0, 1), true);
        Checks.due("24 stretches", x.stretches(2), 24);
        Checks.due("their count", x.count(2), 976);
        Checks.set(x, 3, "<5.5.5|>5.5.5");
        Checks.due("meet to 25 stretches", x.meet(3, 2, 3), false);
        Checks.due("refused: d stays", x.count(3), 999);
        Checks.due("refused: d stays", x.stretches(3), 2);
        Checks.due("meet to 25 stretches in place", x.meet(2, 2, 3), false);
        Checks.due("refused: stretches stay", x.stretches(2), 24);
        Checks.due("refused: count stays", x.count(2), 976);
        Checks.set(x, 3, "<5.5.5");
        Checks.due("meet to 24 stretches in place", x.meet(2, 2, 3), true);
        Checks.due("their count", x.count(2), 531);
    }

    private static void fill(SemverRanges x, int r, String[] texts) {
        int spare = 3;
        Checks.set(x, r, texts[0]);
        Checks.set(x, spare, texts[1]);
        x.join(r, r, spare);
        Checks.due("twelve versions", x.count(r), 12);
        Checks.due("twelve stretches", x.stretches(r), 12);
    }
}
