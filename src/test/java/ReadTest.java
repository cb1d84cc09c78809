/** Promise 4, sentence by sentence: read. What texts mean is in GrammarTest and ItemsTest. */
public final class ReadTest {
    private static final String[] NO_TEXTS = {"", "1.", "8.8|", "8 7 |", "<=", "8|7|6.6.6.6"};

    public static void main(String[] args) {
        Checks.sentence("4: r outside 0..3: BAD", ReadTest::noRange);
        Checks.sentence("4: Tested in this order", ReadTest::badBeforeNone);
        Checks.sentence("4: (BAD changes nothing)", ReadTest::badChangesNothing);
        Checks.sentence("4: the text is not a range by the grammar: NONE", ReadTest::noText);
        Checks.sentence("4: (the range stays)", ReadTest::rangeStays);
        Checks.sentence("4: (NONE leaves the text)", ReadTest::noneLeavesText);
        Checks.sentence("4: Else range r becomes this set", ReadTest::becomesSet);
        Checks.sentence("4: the text becomes empty", ReadTest::textBecomesEmpty);
        Checks.sentence("4: the number of versions in the range is answered", ReadTest::answersNumber);
        Checks.sentence("No range ever has more than 24 stretches: read", ReadTest::mostStretches);
        Checks.end();
    }

    private static void noRange() {
        for (int r : Checks.noRanges()) {
            SemverRanges x = new SemverRanges();
            Checks.type(x, "1.2");
            Checks.due("read(" + r + ") of a range", x.read(r), Checks.BAD);
        }
        for (int r = 0; r < 4; r++) {
            SemverRanges x = new SemverRanges();
            Checks.type(x, "1.2");
            Checks.due("read(" + r + ") of a range", x.read(r), 10);
        }
    }

    private static void badBeforeNone() {
        for (int r : Checks.noRanges()) {
            for (String text : NO_TEXTS) {
                SemverRanges x = new SemverRanges();
                Checks.type(x, text);
                Checks.due("read(" + r + ") of \"" + text + "\"", x.read(r), Checks.BAD);
            }
        }
    }

    private static void badChangesNothing() {
        for (int r : Checks.noRanges()) {
            SemverRanges x = Checks.with("0", "1", "2", "3");
            Checks.type(x, "7.7");
            x.read(r);
            for (int other = 0; other < 4; other++) {
                Checks.dueSpan("after read(" + r + ")", x, other, 100 * other, 100 * other + 99);
            }
            Checks.due("the text stays", x.read(0), 10);
        }
    }

    private static void noText() {
        for (int r = 0; r < 4; r++) {
            for (String text : NO_TEXTS) {
                SemverRanges x = new SemverRanges();
                Checks.type(x, text);
                Checks.due("read(" + r + ") of \"" + text + "\"", x.read(r), Checks.NONE);
                Checks.due("and again", x.read(r), Checks.NONE);
            }
        }
    }

    private static void rangeStays() {
        for (String text : NO_TEXTS) {
            SemverRanges x = Checks.with("0", "1", "2", "3");
            Checks.type(x, text);
            for (int r = 0; r < 4; r++) {
                x.read(r);
                Checks.dueSpan("after read(" + r + ") of \"" + text + "\"", x, r, 100 * r, 100 * r + 99);
            }
            // What the failed readings left behind must not get into the next one.
            x.wipe();
            Checks.set(x, 0, "5.5");
            Checks.dueSpan("read after them", x, 0, 550, 559);
        }
    }

    private static void noneLeavesText() {
        for (String text : NO_TEXTS) {
            SemverRanges x = new SemverRanges();
            Checks.type(x, text);
            x.read(0);
            Checks.due("wipe() after read of \"" + text + "\"", x.wipe(), text.length());
        }
        SemverRanges x = new SemverRanges();
        Checks.type(x, "8.8|");
        x.read(1);
        Checks.due("type goes on behind it", x.type('9'), 5);
        Checks.due("read(1) of the whole", x.read(1), 110);
    }

    private static void becomesSet() {
        SemverRanges x = Checks.with("0", "1", "2", "3");
        for (int r = 0; r < 4; r++) {
            Checks.dueSpan("each range is its own", x, r, 100 * r, 100 * r + 99);
        }
        Checks.set(x, 1, "7.7");
        Checks.dueSpan("the old set is gone", x, 1, 770, 779);
        Checks.dueSpan("range 0 stays", x, 0, 0, 99);
        Checks.dueSpan("range 2 stays", x, 2, 200, 299);
        Checks.dueSpan("range 3 stays", x, 3, 300, 399);
        Checks.set(x, 1, "2-1");
        Checks.dueEmpty("an empty set", x, 1);
        Checks.set(x, 1, "*");
        Checks.dueSpan("the set of all", x, 1, 0, 999);
    }

    private static void textBecomesEmpty() {
        String[] texts = {"1", "*", "2-1", "1.2.3|2.3.4|3.4.5|4.5.6|5.6.7|6.7.8|^7.8"};
        for (String text : texts) {
            SemverRanges x = Checks.with(text);
            Checks.due("wipe() after read of \"" + text + "\"", x.wipe(), 0);
            SemverRanges y = Checks.with(text);
            Checks.due("read(0) after read of \"" + text + "\"", y.read(0), Checks.NONE);
            Checks.due("type('1') after it", y.type('1'), 1);
            Checks.due("read(0) of \"1\"", y.read(0), 100);
        }
    }

    private static void answersNumber() {
        String[] texts = {"2-1", "<0", "1.2.3", "0.0.0|9.9.9", "1-4|3-6", "1|1|1", "1.2.3|1", "*|*", ">0.0.0"};
        int[] numbers = {0, 0, 1, 2, 600, 100, 100, 1000, 999};
        for (int i = 0; i < texts.length; i++) {
            for (int r = 0; r < 4; r++) {
                SemverRanges x = new SemverRanges();
                Checks.type(x, texts[i]);
                Checks.due("read(" + r + ") of \"" + texts[i] + "\"", x.read(r), numbers[i]);
            }
        }
    }

    /** No text of 40 characters comes near to 24 stretches: none of these is refused. */
    private static void mostStretches() {
        SemverRanges x = new SemverRanges();
        Checks.type(x, "0|2|4|6|8|1.2|1.5|1.7|3.5|5.5|7.5|9.5");
        Checks.due("read of twelve stretches", x.read(0), 570);
        Checks.due("stretches", x.stretches(0), 12);
        Checks.type(x, "9.5|7.5|5.5|3.5|1.7|1.5|1.2|8|6|4|2|0");
        Checks.due("read of them the other way", x.read(1), 570);
        Checks.due("stretches", x.stretches(1), 12);
        Checks.type(x, "0.0.1|0.0.3|0.0.5|0.0.7|0.0.9|1.1.1|3|5");
        Checks.due("read of eight stretches", x.read(2), 206);
        Checks.due("stretches", x.stretches(2), 8);
    }
}
