/** What the tests of this project share: answers are compared, wrong ones printed and counted. */
final class Checks {
    static final int BAD = -1;
    static final int FULL = -2;
    static final int NONE = -3;

    private static int right = 0;
    private static int wrong = 0;

    private Checks() {
    }

    static void due(String call, long got, long want) {
        if (got == want) {
            right++;
            return;
        }
        wrong++;
        System.out.println(call + " answered " + got + ", due is " + want);
    }

    static void due(String call, boolean got, boolean want) {
        due(call, got ? 1L : 0L, want ? 1L : 0L);
    }

    static void type(SemverRanges x, String text) {
        for (int i = 0; i < text.length(); i++) {
            x.type(text.charAt(i));
        }
    }

    /** Makes range r of x the one that the text tells; the text of x is empty before and after. */
    static void set(SemverRanges x, int r, String text) {
        type(x, text);
        int answer = x.read(r);
        if (answer < 0) {
            due("read(" + r + ") of \"" + text + "\" is a count", answer, 0);
        }
    }

    /** Range r is the versions from low to high; few calls, as an object is only good for 512. */
    static void dueSpan(String call, SemverRanges x, int r, int low, int high) {
        due(call + ": count(" + r + ")", x.count(r), high - low + 1);
        due(call + ": stretches(" + r + ")", x.stretches(r), 1);
        due(call + ": atLeast(" + r + ", 0)", x.atLeast(r, 0), low);
        due(call + ": atMost(" + r + ", 999)", x.atMost(r, 999), high);
        due(call + ": has(" + r + ", " + (low - 1) + ")", x.has(r, low - 1), false);
        due(call + ": has(" + r + ", " + low + ")", x.has(r, low), true);
        due(call + ": has(" + r + ", " + high + ")", x.has(r, high), true);
        due(call + ": has(" + r + ", " + (high + 1) + ")", x.has(r, high + 1), false);
    }

    static void dueEmpty(String call, SemverRanges x, int r) {
        due(call + ": count(" + r + ")", x.count(r), 0);
        due(call + ": stretches(" + r + ")", x.stretches(r), 0);
        due(call + ": atLeast(" + r + ", 0)", x.atLeast(r, 0), NONE);
        due(call + ": atMost(" + r + ", 999)", x.atMost(r, 999), NONE);
    }

    /** Ends the test; to be called last. */
    static void end() {
        System.out.println(right + " answers as due, " + wrong + " not");
        if (wrong != 0) {
            System.exit(1);
        }
    }
}
