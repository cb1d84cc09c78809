/** Promise 4: read. */
public final class ReadTest {
    public static void main(String[] args) {
        partials();
        comparisons();
        spans();
        tildes();
        carets();
        clausesAndRanges();
        notARange();
        wipedCharactersAreGone();
        fullTextThatBreaksOff();
        orderOfTests();
        whatReadChanges();
        Checks.end();
    }

    private static void partials() {
        span("*", 0, 999);
        span("0", 0, 99);
        span("9", 900, 999);
        span("1.2", 120, 129);
        span("0.0", 0, 9);
        span("9.9", 990, 999);
        span("1.2.3", 123, 123);
        span("0.0.0", 0, 0);
        span("9.9.9", 999, 999);
    }

    private static void comparisons() {
        span("<3", 0, 299);
        span("<3.4", 0, 339);
        span("<3.4.5", 0, 344);
        span("<=3", 0, 399);
        span("<=3.4", 0, 349);
        span("<=3.4.5", 0, 345);
        span(">3", 400, 999);
        span(">3.4", 350, 999);
        span(">3.4.5", 346, 999);
        span(">=3", 300, 999);
        span(">=3.4", 340, 999);
        span(">=3.4.5", 345, 999);
        none("<0");
        none("<0.0");
        none("<0.0.0");
        none(">9");
        none(">9.9");
        none(">9.9.9");
        span("<0.0.1", 0, 0);
        span(">9.9.8", 999, 999);
        span("<=9", 0, 999);
        span(">=0", 0, 999);
    }

    private static void spans() {
        span("1-2", 100, 299);
        span("1.5-2", 150, 299);
        span("1-2.5", 100, 259);
        span("1.2.3-4.5.6", 123, 456);
        span("3.4-3.4", 340, 349);
        span("1.2.5-1.2", 125, 129);
        span("1.2-1.2.5", 120, 125);
        span("7.7.7-7.7.7", 777, 777);
        span("0-9", 0, 999);
        none("2-1");
        none("1.2-1.1");
        none("1.2.4-1.2.3");
        none("9-0");
    }

    private static void tildes() {
        span("~3", 300, 399);
        span("~3.4", 340, 349);
        span("~3.4.5", 345, 349);
        span("~0", 0, 99);
        span("~0.0", 0, 9);
        span("~0.0.7", 7, 9);
        span("~9.9.9", 999, 999);
        span("~3.0", 300, 309);
    }

    private static void carets() {
        span("^3", 300, 399);
        span("^3.4", 340, 399);
        span("^3.4.5", 345, 399);
        span("^3.0", 300, 399);
        span("^3.0.0", 300, 399);
        span("^0", 0, 99);
        span("^0.4", 40, 49);
        span("^0.4.5", 45, 49);
        span("^0.0", 0, 9);
        span("^0.0.0", 0, 0);
        span("^0.0.5", 5, 5);
        span("^1.0.0", 100, 199);
        span("^0.1.0", 10, 19);
        span("^0.0.9", 9, 9);
        span("^0.9.9", 99, 99);
        span("^9.9.9", 999, 999);
    }

    private static void clausesAndRanges() {
        span(">=1.2 <3", 120, 299);
        span("<3 >=1.2", 120, 299);
        span("* * 1", 100, 199);
        span("1 1.2 1.2.3", 123, 123);
        span("1-5 3-8 ^4.2", 420, 499);
        none("1 2");
        none("2 <0 *");
        none("2-1 *");
        span("2-1|4", 400, 499);
        span("1 2|4", 400, 499);
        span("4|1 2", 400, 499);
        span("1|2|3", 100, 399);
        span("3|1|2", 100, 399);
        span("1-4|3-6", 100, 699);
        span("1.2.3|*", 0, 999);
        SemverRanges x = new SemverRanges();
        Checks.type(x, "<1 >0.8|>9.8 *|5.5.5|5.5.7 5.5");
        Checks.due("read of four clauses", x.read(0), 22);
        Checks.due("its stretches", x.stretches(0), 4);
        Checks.due("first", x.atLeast(0, 0), 90);
        Checks.due("last of the first", x.atMost(0, 500), 99);
        Checks.due("between", x.has(0, 556), false);
        Checks.due("begin of the last", x.atLeast(0, 558), 990);
        Checks.type(x, "0.0.1|0.0.3|0.0.5|0.0.7|0.0.9|1.1.1|3|5");
        Checks.due("read of eight clauses", x.read(3), 206);
        Checks.due("its stretches", x.stretches(3), 8);
        Checks.type(x, "0|2|4|6|8|0|2|4|6|8|0|2|4|6|8|0|2|4|6|8");
        Checks.due("read of twenty clauses", x.read(2), 500);
        Checks.due("its stretches", x.stretches(2), 5);
        Checks.type(x, "* * * * * * * * * * * * * * * * * * * 3");
        Checks.due("read of twenty items", x.read(2), 100);
    }

    private static void notARange() {
        String[] texts = {
            "", " ", "|", ".", "-", "<", ">", "=", "^", "~", "<=", ">=",
            " 1", "1 ", "1  2", "1 |2", "1| 2", "|1", "1|", "1||2", "1 | 2",
            "1.", ".1", "1..2", "1.2.", "1.2.3.", "1.2.3.4", "12", "1.23", "1.2.34", "1. 2",
            "=1", "==1", "<>1", "><1", "<<1", ">>1", "=<1", "=>1", "<==1", ">==1", "< 1", "<= 1", "< =1",
            "^ 1", "^^1", "~~1", "^~1", "~^1", "^<1", "<^1", "~>1", "^=1", "1^", "1~", "1<", "1<2", "1>2", "1=",
            "1-", "-1", "1--2", "1-2-3", "1 -2", "1- 2", "1 - 2", "1-*", "*-1", "1-<2", "<1-2", "^1-2", "~1-2",
            ">=1-2", "1-^2", "1.-2", "1-2.", "1-.2", "1-23",
            "**", "*1", "1*", "*.1", "1.*", "<*", "^*", "~*", "* ", " *", "*|", "|*", "*  *", "*||*",
            "1|2 ", "1 2|", "1|2|", "1 2 3.", "1 <", "1|^",
        };
        for (String text : texts) {
            SemverRanges x = new SemverRanges();
            Checks.set(x, 2, "^4.5");
            Checks.type(x, text);
            Checks.due("read(2) of \"" + text + "\"", x.read(2), Checks.NONE);
            Checks.due("wipe() after it", x.wipe(), text.length());
            Checks.dueSpan("the range after it", x, 2, 450, 499);
        }
    }

    private static void wipedCharactersAreGone() {
        String[] before = {"1.2.3", "<=1", "1 2", "1|2", "1-2", "^1", "~1", "*"};
        for (String whole : before) {
            for (int kept = 0; kept < whole.length(); kept++) {
                SemverRanges x = new SemverRanges();
                Checks.type(x, whole);
                x.wipe();
                Checks.type(x, whole.substring(0, kept));
                boolean isRange = kept > 0 && whole.charAt(kept - 1) >= '0' && whole.charAt(kept - 1) <= '9';
                String call = "read(0) of \"" + whole.substring(0, kept) + "\" after \"" + whole + "\" was wiped";
                Checks.due(call + " is a count", x.read(0) >= 0, isRange);
            }
        }
    }

    private static void fullTextThatBreaksOff() {
        String before = "1.2.3|2.3.4|3.4.5|4.5.6|5.6.7|6.7.8|";
        String[] ends = {"7.8.", "7.8|", "7.8 ", "7.8-", "7.8=", "7|<=", "7 >=", "7 *^", "7||~"};
        for (String end : ends) {
            SemverRanges x = new SemverRanges();
            String whole = before + end;
            Checks.type(x, whole);
            Checks.due("read(0) of \"" + whole + "\"", x.read(0), Checks.NONE);
            Checks.due("wipe() after it", x.wipe(), 40);
        }
    }

    private static void orderOfTests() {
        int[] wrong = {-1, 4, 5, 1000, Integer.MIN_VALUE, Integer.MAX_VALUE};
        for (int r : wrong) {
            SemverRanges x = new SemverRanges();
            Checks.due("read(" + r + ") of no text", x.read(r), Checks.BAD);
            Checks.type(x, "1.2");
            Checks.due("read(" + r + ") of a range", x.read(r), Checks.BAD);
            Checks.due("the text stays", x.wipe(), 3);
            for (int other = 0; other < 4; other++) {
                Checks.due("count(" + other + ")", x.count(other), 0);
            }
        }
    }

    private static void whatReadChanges() {
        SemverRanges x = new SemverRanges();
        for (int r = 0; r < 4; r++) {
            Checks.set(x, r, "" + r);
        }
        for (int r = 0; r < 4; r++) {
            Checks.due("each range is its own: count", x.count(r), 100);
            Checks.due("each range is its own: low", x.atLeast(r, 0), 100 * r);
        }
        Checks.type(x, "7.7");
        Checks.due("read(1)", x.read(1), 10);
        Checks.due("the text is empty", x.wipe(), 0);
        Checks.due("the old set is gone", x.has(1, 100), false);
        Checks.due("the new set is there", x.has(1, 770), true);
        Checks.due("read(1) of no text", x.read(1), Checks.NONE);
        Checks.due("the range stays", x.count(1), 10);
        Checks.type(x, "8.8|");
        Checks.due("read(1) of half a range", x.read(1), Checks.NONE);
        Checks.due("type goes on behind it", x.type('9'), 5);
        Checks.due("read(1) of the whole", x.read(1), 110);
        Checks.due("what was read before is not in it", x.has(1, 770), false);
    }

    private static void span(String text, int low, int high) {
        SemverRanges x = new SemverRanges();
        Checks.type(x, text);
        Checks.due("read(1) of \"" + text + "\"", x.read(1), high - low + 1);
        Checks.due("wipe() after \"" + text + "\"", x.wipe(), 0);
        Checks.dueSpan("\"" + text + "\"", x, 1, low, high);
    }

    private static void none(String text) {
        SemverRanges x = new SemverRanges();
        Checks.set(x, 1, "*");
        Checks.type(x, text);
        Checks.due("read(1) of \"" + text + "\"", x.read(1), 0);
        Checks.due("wipe() after \"" + text + "\"", x.wipe(), 0);
        Checks.dueEmpty("\"" + text + "\"", x, 1);
    }
}
