/** Promises 5 to 7, sentence by sentence: meet, join and invert. */
public final class SetsTest {
    // Twelve single versions each; EVEN and ODD together are 24 stretches, and no two of the 24 touch.
    private static final String[] EVEN = {"0.0.0|0.2.0|0.4.0|0.6.0|0.8.0|1.0.0", "1.2.0|1.4.0|1.6.0|1.8.0|2.0.0|2.2.0"};
    private static final String[] ODD = {"0.1.0|0.3.0|0.5.0|0.7.0|0.9.0|1.1.0", "1.3.0|1.5.0|1.7.0|1.9.0|2.1.0|2.3.0"};

    // As EVEN and ODD, but each version four higher, and so between the others.
    private static final String[] EVEN_4 = {"0.0.4|0.2.4|0.4.4|0.6.4|0.8.4|1.0.4", "1.2.4|1.4.4|1.6.4|1.8.4|2.0.4|2.2.4"};
    private static final String[] ODD_4 = {"0.1.4|0.3.4|0.5.4|0.7.4|0.9.4|1.1.4", "1.3.4|1.5.4|1.7.4|1.9.4|2.1.4|2.3.4"};

    public static void main(String[] args) {
        Checks.sentence("5: Range d becomes the versions that are in both a and b", SetsTest::meeting);
        Checks.sentence("5: (d is any range, the others stay)", SetsTest::meetOfEveryChoice);
        Checks.sentence("5: Refused, answers false: d, a or b outside 0..3", SetsTest::meetOfNoRange);
        Checks.sentence("5: or the result would have more than 24 stretches", SetsTest::meetToMoreThan24);
        Checks.sentence("5: (refused, d stays)", SetsTest::refusedMeetLeavesAll);
        Checks.sentence("5: Else true", SetsTest::meetToNoMoreThan24);
        Checks.sentence("6: Range d becomes the versions that are in a or in b", SetsTest::joining);
        Checks.sentence("6: (d is any range, the others stay)", SetsTest::joinOfEveryChoice);
        Checks.sentence("6: Refused, answers false: d, a or b outside 0..3", SetsTest::joinOfNoRange);
        Checks.sentence("6: or the result would have more than 24 stretches", SetsTest::joinToMoreThan24);
        Checks.sentence("6: (refused, d stays)", SetsTest::refusedJoinLeavesAll);
        Checks.sentence("6: Else true", SetsTest::joinToNoMoreThan24);
        Checks.sentence("7: Range d becomes the versions that are not in a", SetsTest::inverting);
        Checks.sentence("7: (d is any range, the others stay)", SetsTest::invertOfEveryChoice);
        Checks.sentence("7: Refused, answers false: d or a outside 0..3", SetsTest::invertOfNoRange);
        Checks.sentence("7: or the result would have more than 24 stretches", SetsTest::invertToMoreThan24);
        Checks.sentence("7: (refused, d stays)", SetsTest::refusedInvertLeavesAll);
        Checks.sentence("7: Else true", SetsTest::invertToNoMoreThan24);
        Checks.end();
    }

    private static void meeting() {
        SemverRanges x = Checks.with("1-3", "2.5-8", "0", "9");
        x.meet(2, 0, 1);
        Checks.dueSpan("meet", x, 2, 250, 399);
        x.meet(2, 0, 3);
        Checks.dueEmpty("meet of nothing shared", x, 2);
        x.meet(2, 0, 0);
        Checks.dueSpan("meet with itself", x, 2, 100, 399);
        Checks.set(x, 3, "<1|>=3.9");
        x.meet(0, 0, 3);
        Checks.dueSpan("meet into a", x, 0, 390, 399);
        x.meet(1, 0, 1);
        Checks.dueSpan("meet into b", x, 1, 390, 399);
        SemverRanges y = Checks.with("*", "0.0.0|9.9.9");
        y.meet(2, 0, 1);
        Checks.due("meet with all: both ends", y.count(2), 2);
        y.meet(2, 0, 3);
        Checks.dueEmpty("meet with nothing", y, 2);
        y.meet(0, 0, 0);
        Checks.dueSpan("meet of all with itself in place", y, 0, 0, 999);
        SemverRanges z = Checks.with("<=1.2.3", ">=1.2.3", ">1.2.3");
        z.meet(3, 0, 1);
        Checks.dueSpan("meet of one shared version", z, 3, 123, 123);
        z.meet(3, 0, 2);
        Checks.dueEmpty("meet of neighbours", z, 3);
    }

    private static void joining() {
        SemverRanges x = Checks.with("1-3", "2.5-8", "9", "0");
        x.join(2, 0, 1);
        Checks.dueSpan("join", x, 2, 100, 899);
        x.join(2, 0, 3);
        Checks.dueSpan("join of neighbours is one stretch", x, 2, 0, 399);
        Checks.set(x, 2, "4.0.1");
        x.join(2, 0, 2);
        Checks.due("join into b: a gap of one parts two stretches", x.stretches(2), 2);
        Checks.due("join into b: count", x.count(2), 301);
        Checks.due("join into b: the gap", x.has(2, 400), false);
        x.join(0, 0, 3);
        Checks.dueSpan("join into a", x, 0, 0, 399);
        x.join(1, 0, 0);
        Checks.dueSpan("join with itself", x, 1, 0, 399);
        SemverRanges y = Checks.with("*", "4.5");
        y.join(2, 0, 1);
        Checks.dueSpan("join with all", y, 2, 0, 999);
        y.join(2, 3, 1);
        Checks.dueSpan("join with nothing", y, 2, 450, 459);
        y.join(2, 3, 3);
        Checks.dueEmpty("join of nothing", y, 2);
        SemverRanges z = Checks.with("<4.5.6", ">4.5.6");
        z.join(2, 0, 1);
        Checks.due("join of all but one: count", z.count(2), 999);
        Checks.due("join of all but one: stretches", z.stretches(2), 2);
    }

    private static void inverting() {
        SemverRanges x = new SemverRanges();
        x.invert(0, 1);
        Checks.dueSpan("invert of nothing", x, 0, 0, 999);
        x.invert(1, 0);
        Checks.dueEmpty("invert of all", x, 1);
        Checks.set(x, 2, "<4.5.6");
        x.invert(2, 2);
        Checks.dueSpan("invert in place", x, 2, 456, 999);
        x.invert(2, 2);
        Checks.dueSpan("and back", x, 2, 0, 455);
        Checks.set(x, 2, "0.0.0|9.9.9");
        x.invert(3, 2);
        Checks.dueSpan("invert of both ends", x, 3, 1, 998);
        x.invert(0, 3);
        Checks.due("inverted twice: count", x.count(0), 2);
        Checks.due("inverted twice: stretches", x.stretches(0), 2);
        Checks.set(x, 1, "1-8");
        x.invert(1, 1);
        Checks.due("invert of the middle: count", x.count(1), 200);
        Checks.due("invert of the middle: stretches", x.stretches(1), 2);
    }

    private static void meetOfEveryChoice() {
        for (int choice = 0; choice < 64; choice++) {
            int d = choice / 16;
            int a = choice / 4 % 4;
            int b = choice % 4;
            SemverRanges x = steps();
            x.meet(d, a, b);
            dueSteps("meet(" + d + ", " + a + ", " + b + ")", x, d, sharedSteps(a, b));
        }
    }

    private static void joinOfEveryChoice() {
        for (int choice = 0; choice < 64; choice++) {
            int d = choice / 16;
            int a = choice / 4 % 4;
            int b = choice % 4;
            SemverRanges x = steps();
            x.join(d, a, b);
            dueSteps("join(" + d + ", " + a + ", " + b + ")", x, d, 400 - sharedSteps(a, b));
        }
    }

    private static void invertOfEveryChoice() {
        for (int choice = 0; choice < 16; choice++) {
            int d = choice / 4;
            int a = choice % 4;
            SemverRanges x = steps();
            x.invert(d, a);
            dueSteps("invert(" + d + ", " + a + ")", x, d, 800);
            Checks.due("invert(" + d + ", " + a + "): an old one", x.has(d, 100 * a), false);
        }
    }

    /** Range r is r.0.0 to (r + 1).9.9. */
    private static SemverRanges steps() {
        return Checks.with("0-1", "1-2", "2-3", "3-4");
    }

    private static int sharedSteps(int a, int b) {
        return a == b ? 200 : a + 1 == b || b + 1 == a ? 100 : 0;
    }

    private static void dueSteps(String call, SemverRanges x, int changed, int count) {
        for (int r = 0; r < 4; r++) {
            if (r == changed) {
                Checks.due(call + ": count(" + r + ")", x.count(r), count);
            } else {
                Checks.dueSpan(call + " leaves", x, r, 100 * r, 100 * r + 199);
            }
        }
    }

    private static void meetOfNoRange() {
        for (int n : Checks.noRanges()) {
            SemverRanges x = steps();
            Checks.due("meet(" + n + ", 0, 1)", x.meet(n, 0, 1), false);
            Checks.due("meet(3, " + n + ", 1)", x.meet(3, n, 1), false);
            Checks.due("meet(3, 0, " + n + ")", x.meet(3, 0, n), false);
            Checks.due("meet(" + n + ", " + n + ", " + n + ")", x.meet(n, n, n), false);
            dueSteps("refused for " + n, x, -1, 0);
        }
    }

    private static void joinOfNoRange() {
        for (int n : Checks.noRanges()) {
            SemverRanges x = steps();
            Checks.due("join(" + n + ", 0, 1)", x.join(n, 0, 1), false);
            Checks.due("join(3, " + n + ", 1)", x.join(3, n, 1), false);
            Checks.due("join(3, 0, " + n + ")", x.join(3, 0, n), false);
            Checks.due("join(" + n + ", " + n + ", " + n + ")", x.join(n, n, n), false);
            dueSteps("refused for " + n, x, -1, 0);
        }
    }

    private static void invertOfNoRange() {
        for (int n : Checks.noRanges()) {
            SemverRanges x = steps();
            Checks.due("invert(" + n + ", 0)", x.invert(n, 0), false);
            Checks.due("invert(3, " + n + ")", x.invert(3, n), false);
            Checks.due("invert(" + n + ", " + n + ")", x.invert(n, n), false);
            dueSteps("refused for " + n, x, -1, 0);
        }
    }

    private static void meetToMoreThan24() {
        SemverRanges x = with24Gaps();
        Checks.set(x, 3, "<5.5.5|>5.5.5");
        Checks.due("meet to 25 stretches", x.meet(1, 2, 3), false);
        Checks.due("meet to 25 stretches, the other way", x.meet(1, 3, 2), false);
        Checks.set(x, 3, "<5.5.5|>5.5.5 <7|>7");
        Checks.due("meet to 26 stretches", x.meet(1, 2, 3), false);
        SemverRanges y = with48();
        y.invert(1, 1);
        y.invert(2, 2);
        Checks.due("24 gaps", y.stretches(1), 24);
        Checks.due("24 other gaps", y.stretches(2), 24);
        Checks.due("meet of 24 and 24 to 47", y.meet(3, 1, 2), false);
    }

    private static void refusedMeetLeavesAll() {
        SemverRanges x = with24Gaps();
        Checks.set(x, 3, "<5.5.5|>5.5.5");
        Checks.set(x, 1, "6");
        x.meet(1, 2, 3);
        Checks.dueSpan("refused: d", x, 1, 600, 699);
        due24Gaps("refused: a", x);
        x.meet(2, 2, 3);
        due24Gaps("refused: d and a", x);
        x.meet(3, 2, 3);
        Checks.due("refused: d and b", x.count(3), 999);
        Checks.due("refused: d and b", x.stretches(3), 2);
    }

    private static void meetToNoMoreThan24() {
        SemverRanges x = new SemverRanges();
        fill(x, 0, EVEN);
        x.invert(0, 0);
        fill(x, 1, ODD);
        x.invert(1, 1);
        Checks.due("meet of 12 stretches and 13 to 24", x.meet(2, 0, 1), true);
        due24Gaps("meet", x);
        x.invert(3, 2);
        Checks.due("meet of 24 and 24 to none", x.meet(0, 2, 3), true);
        Checks.dueEmpty("none", x, 0);
        Checks.set(x, 3, "<5.5.5");
        Checks.due("meet to 24 in place", x.meet(2, 2, 3), true);
        Checks.due("its count", x.count(2), 531);
        Checks.set(x, 3, "<1.5.0|>1.5.0");
        Checks.due("meet with a gap that is there already", x.meet(2, 2, 3), true);
        Checks.due("24 still", x.stretches(2), 24);
        Checks.due("meet of 24 with itself", x.meet(1, 2, 2), true);
        Checks.due("24 again", x.stretches(1), 24);
    }

    private static void joinToMoreThan24() {
        SemverRanges x = with24();
        Checks.set(x, 3, "5.5.5");
        Checks.due("join to 25 stretches", x.join(1, 2, 3), false);
        Checks.due("join to 25 stretches, the other way", x.join(1, 3, 2), false);
        Checks.set(x, 3, "0.0.2|9.9.9");
        Checks.due("join to 26 stretches", x.join(1, 2, 3), false);
        Checks.set(x, 3, "0.5.5");
        Checks.due("join to 25, the last one between", x.join(1, 2, 3), false);
        SemverRanges y = with48();
        Checks.due("join of 24 and 24 to 48", y.join(3, 1, 2), false);
    }

    private static void refusedJoinLeavesAll() {
        SemverRanges x = with24();
        Checks.set(x, 3, "5.5.5");
        Checks.set(x, 1, "6");
        x.join(1, 2, 3);
        Checks.dueSpan("refused: d", x, 1, 600, 699);
        due24("refused: a", x);
        x.join(2, 2, 3);
        due24("refused: d and a", x);
        x.join(3, 2, 3);
        Checks.dueSpan("refused: d and b", x, 3, 555, 555);
    }

    private static void joinToNoMoreThan24() {
        SemverRanges x = new SemverRanges();
        fill(x, 0, EVEN);
        fill(x, 1, ODD);
        Checks.due("join of 12 and 12 to 24", x.join(2, 0, 1), true);
        due24("join", x);
        Checks.due("join of 24 with some of them", x.join(2, 2, 0), true);
        due24("join with some of them", x);
        Checks.set(x, 3, "2.3.1");
        Checks.due("join of a neighbour", x.join(2, 2, 3), true);
        Checks.due("24 stretches still", x.stretches(2), 24);
        Checks.due("one version more", x.count(2), 25);
        x.invert(3, 2);
        Checks.due("join of 24 and 24 to one", x.join(1, 2, 3), true);
        Checks.dueSpan("one", x, 1, 0, 999);
        Checks.set(x, 3, ">=0.5 <1.5");
        Checks.due("join over some of them", x.join(2, 2, 3), true);
        Checks.due("fewer stretches", x.stretches(2), 14);
    }

    private static void invertToMoreThan24() {
        SemverRanges x = with24Inside();
        Checks.due("invert to 25 stretches", x.invert(3, 2), false);
        Checks.due("invert to 25 stretches in place", x.invert(2, 2), false);
    }

    private static void refusedInvertLeavesAll() {
        SemverRanges x = with24Inside();
        Checks.set(x, 3, "7");
        x.invert(3, 2);
        Checks.dueSpan("refused: d", x, 3, 700, 799);
        x.invert(2, 2);
        Checks.due("refused: d and a: stretches", x.stretches(2), 24);
        Checks.due("refused: d and a: count", x.count(2), 24);
        Checks.due("refused: d and a: first", x.atLeast(2, 0), 5);
        Checks.due("refused: d and a: last", x.atMost(2, 999), 230);
    }

    private static void invertToNoMoreThan24() {
        SemverRanges x = with24();
        Checks.due("invert of 24 that begin at 0.0.0", x.invert(3, 2), true);
        Checks.due("24 gaps", x.stretches(3), 24);
        Checks.due("invert of 24 that end at 9.9.9", x.invert(3, 3), true);
        Checks.due("24 again", x.stretches(3), 24);
        Checks.due("24 again: count", x.count(3), 24);
        x = with24Inside();
        Checks.set(x, 0, "2.2-9");
        x.join(2, 2, 0);
        Checks.due("22 and one that ends at 9.9.9", x.stretches(2), 23);
        Checks.due("invert of 23", x.invert(3, 2), true);
        Checks.due("23 gaps", x.stretches(3), 23);
        x = with24();
        Checks.set(x, 0, "2.3-9");
        x.join(2, 2, 0);
        Checks.due("24 from 0.0.0 to 9.9.9", x.stretches(2), 24);
        Checks.due("invert of them", x.invert(3, 2), true);
        Checks.due("23 gaps between", x.stretches(3), 23);
    }

    /** Range 2 is 24 single versions from 0.0.0 on. */
    private static SemverRanges with24() {
        SemverRanges x = new SemverRanges();
        fill(x, 0, EVEN);
        fill(x, 1, ODD);
        x.join(2, 0, 1);
        return x;
    }

    private static void due24(String call, SemverRanges x) {
        Checks.due(call + ": stretches(2)", x.stretches(2), 24);
        Checks.due(call + ": count(2)", x.count(2), 24);
        Checks.due(call + ": atLeast(2, 0)", x.atLeast(2, 0), 0);
        Checks.due(call + ": atMost(2, 999)", x.atMost(2, 999), 230);
    }

    /** Range 2 is 24 single versions, and 0.0.0 is not among them. */
    private static SemverRanges with24Inside() {
        SemverRanges x = with24();
        Checks.set(x, 0, ">0.0.0");
        Checks.set(x, 1, "0.0.5");
        x.meet(2, 2, 0);
        x.join(2, 2, 1);
        Checks.due("24 stretches inside", x.stretches(2), 24);
        return x;
    }

    /** Range 2 is what lies between and behind the 24. */
    private static SemverRanges with24Gaps() {
        SemverRanges x = with24();
        x.invert(2, 2);
        return x;
    }

    private static void due24Gaps(String call, SemverRanges x) {
        Checks.due(call + ": stretches(2)", x.stretches(2), 24);
        Checks.due(call + ": count(2)", x.count(2), 976);
        Checks.due(call + ": atLeast(2, 0)", x.atLeast(2, 0), 1);
        Checks.due(call + ": atMost(2, 999)", x.atMost(2, 999), 999);
    }

    /** Range 1 is 24 single versions up to 9.9.9, range 2 is 24 from 0.0.0 on; no two of the 48 touch. */
    private static SemverRanges with48() {
        SemverRanges x = new SemverRanges();
        fill(x, 1, EVEN_4);
        fill(x, 2, ODD_4);
        Checks.set(x, 3, "<2.3");
        x.meet(2, 2, 3);
        x.join(1, 1, 2);
        Checks.set(x, 2, "9.9.9");
        x.join(1, 1, 2);
        Checks.due("24 that end at 9.9.9", x.stretches(1), 24);
        fill(x, 0, EVEN);
        fill(x, 2, ODD);
        x.join(2, 0, 2);
        Checks.due("24 that begin at 0.0.0", x.stretches(2), 24);
        return x;
    }

    private static void fill(SemverRanges x, int r, String[] texts) {
        int spare = 3;
        Checks.set(x, r, texts[0]);
        Checks.set(x, spare, texts[1]);
        x.join(r, r, spare);
        Checks.due("twelve versions", x.count(r), 12);
        Checks.due("twelve stretches", x.stretches(r), 12);
    }
}
