/** What the tests of this project share: answers are compared, wrong ones printed and counted. */
final class Checks {
    static final int BAD = -1;
    static final int FULL = -2;
    static final int NONE = -3;
    static final int LEAST = Integer.MIN_VALUE;
    static final int MOST = Integer.MAX_VALUE;

    /** No ranges; among them such as fall back on 0..3 if they are cut to 8 or 16 bits. */
    private static final int[] NO_RANGES = {-1, 4, 5, -4, 256, -256, 1000, 65536, LEAST, MOST};

    private static String sentence = "";
    private static int sentences = 0;
    private static int right = 0;
    private static int wrong = 0;

    private Checks() {
    }

    /** Runs the test of one sentence of the document; its words stand before each wrong answer. */
    static void sentence(String words, Runnable test) {
        sentence = words + ": ";
        sentences++;
        try {
            test.run();
        } catch (RuntimeException thrown) {
            wrong++;
            System.out.println(sentence + "a call threw " + thrown);
        }
        sentence = "";
    }

    static void due(String call, long got, long want) {
        if (got == want) {
            right++;
            return;
        }
        wrong++;
        System.out.println(sentence + call + " answered " + got + ", due is " + want);
    }

    static void due(String call, boolean got, boolean want) {
        due(call, got ? 1L : 0L, want ? 1L : 0L);
    }

    static int[] noRanges() {
        return NO_RANGES.clone();
    }

    static void type(SemverRanges x, String text) {
        for (int i = 0; i < text.length(); i++) {
            x.type(text.charAt(i));
        }
    }

    /** Makes range r of x the one that the text tells; the text of x is empty before and after. */
    static void set(SemverRanges x, int r, String text) {
        type(x, text);
        int answer = x.read(r);
        if (answer < 0) {
            due("read(" + r + ") of \"" + text + "\" is a count", answer, 0);
        }
    }

    /** A new object whose first ranges are those of the texts; no characters leave a range as it was made. */
    static SemverRanges with(String... texts) {
        SemverRanges x = new SemverRanges();
        for (int r = 0; r < texts.length; r++) {
            if (!texts[r].isEmpty()) {
                set(x, r, texts[r]);
            }
        }
        return x;
    }

    /** Range r is the versions from low to high; few calls, as an object is only good for 512. */
    static void dueSpan(String call, SemverRanges x, int r, int low, int high) {
        due(call + ": count(" + r + ")", x.count(r), high - low + 1);
        due(call + ": stretches(" + r + ")", x.stretches(r), 1);
        due(call + ": atLeast(" + r + ", 0)", x.atLeast(r, 0), low);
        due(call + ": atMost(" + r + ", 999)", x.atMost(r, 999), high);
        due(call + ": has(" + r + ", " + (low - 1) + ")", x.has(r, low - 1), false);
        due(call + ": has(" + r + ", " + low + ")", x.has(r, low), true);
        due(call + ": has(" + r + ", " + high + ")", x.has(r, high), true);
        due(call + ": has(" + r + ", " + (high + 1) + ")", x.has(r, high + 1), false);
    }

    static void dueEmpty(String call, SemverRanges x, int r) {
        due(call + ": count(" + r + ")", x.count(r), 0);
        due(call + ": stretches(" + r + ")", x.stretches(r), 0);
        due(call + ": atLeast(" + r + ", 0)", x.atLeast(r, 0), NONE);
        due(call + ": atMost(" + r + ", 999)", x.atMost(r, 999), NONE);
    }

    /** The text is read as the versions from low to high, and is empty then. */
    static void dueRead(String text, int low, int high) {
        SemverRanges x = new SemverRanges();
        type(x, text);
        due("read(1) of \"" + text + "\"", x.read(1), high - low + 1);
        due("wipe() after \"" + text + "\"", x.wipe(), 0);
        dueSpan("\"" + text + "\"", x, 1, low, high);
    }

    /** The text is read as no version at all, and is empty then. */
    static void dueReadEmpty(String text) {
        SemverRanges x = with("3", "*");
        type(x, text);
        due("read(1) of \"" + text + "\"", x.read(1), 0);
        due("wipe() after \"" + text + "\"", x.wipe(), 0);
        dueEmpty("\"" + text + "\"", x, 1);
    }

    /** The text is not a range: it stays, and so does the range. */
    static void dueNotRead(String text) {
        SemverRanges x = with("3", "3", "^4.5", "3");
        type(x, text);
        due("read(2) of \"" + text + "\"", x.read(2), NONE);
        due("wipe() after \"" + text + "\"", x.wipe(), text.length());
        dueSpan("the range after \"" + text + "\"", x, 2, 450, 499);
    }

    /** Ends the test; to be called last. */
    static void end() {
        System.out.println((sentences == 0 ? "" : sentences + " sentences, ") + right + " answers as due, " + wrong + " not");
        if (wrong != 0) {
            System.exit(1);
        }
    }
}
