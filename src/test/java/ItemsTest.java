/** The terms, sentence by sentence: what a text that is a range stands for. */
public final class ItemsTest {
    public static void main(String[] args) {
        Checks.sentence("100 * major + 10 * minor + patch", ItemsTest::versions);
        Checks.sentence("one digit x stands for the versions x.0.0 to x.9.9", ItemsTest::oneDigit);
        Checks.sentence("with two digits x.y for x.y.0 to x.y.9", ItemsTest::twoDigits);
        Checks.sentence("with three for one version", ItemsTest::threeDigits);
        Checks.sentence("\"*\" is all versions", ItemsTest::star);
        Checks.sentence("\"<\" p: all below LOW", ItemsTest::below);
        Checks.sentence("\"<=\" p: all up to HIGH", ItemsTest::upTo);
        Checks.sentence("\">\" p: all above HIGH", ItemsTest::above);
        Checks.sentence("\">=\" p: all from LOW on", ItemsTest::from);
        Checks.sentence("p \"-\" q: from LOW of p to HIGH of q", ItemsTest::spans);
        Checks.sentence("(none if LOW of p is above HIGH of q)", ItemsTest::spansOfNone);
        Checks.sentence("\"~\" p: from LOW to x.9.9 if p has one digit", ItemsTest::tildeOfOne);
        Checks.sentence("\"~\" p: else to x.y.9", ItemsTest::tildeOfMore);
        Checks.sentence("\"^\" p: from LOW to x.9.9 if x is not 0", ItemsTest::caretOfMajor);
        Checks.sentence("\"^\" p: or p has one digit", ItemsTest::caretOfOneDigit);
        Checks.sentence("\"^\" p: else to 0.y.9 if y is not 0", ItemsTest::caretOfMinor);
        Checks.sentence("\"^\" p: or p has two digits", ItemsTest::caretOfTwoDigits);
        Checks.sentence("\"^\" p: else to LOW itself", ItemsTest::caretOfPatch);
        Checks.sentence("A clause is the set of versions that are in all its items", ItemsTest::clauses);
        Checks.sentence("a range the set of those that are in some clause", ItemsTest::ranges);
        Checks.end();
    }

    private static void versions() {
        Checks.dueRead("0.0.0", 0, 0);
        Checks.dueRead("0.0.9", 9, 9);
        Checks.dueRead("0.9.0", 90, 90);
        Checks.dueRead("9.0.0", 900, 900);
        Checks.dueRead("1.2.3", 123, 123);
        Checks.dueRead("9.9.9", 999, 999);
    }

    private static void oneDigit() {
        for (int x = 0; x <= 9; x++) {
            Checks.dueRead("" + x, 100 * x, 100 * x + 99);
        }
    }

    private static void twoDigits() {
        for (int xy = 0; xy <= 99; xy++) {
            Checks.dueRead(xy / 10 + "." + xy % 10, 10 * xy, 10 * xy + 9);
        }
    }

    private static void threeDigits() {
        for (int v = 0; v <= 999; v++) {
            Checks.dueRead(v / 100 + "." + v / 10 % 10 + "." + v % 10, v, v);
        }
    }

    private static void star() {
        Checks.dueRead("*", 0, 999);
    }

    private static void below() {
        Checks.dueRead("<3", 0, 299);
        Checks.dueRead("<3.4", 0, 339);
        Checks.dueRead("<3.4.5", 0, 344);
        Checks.dueRead("<9", 0, 899);
        Checks.dueRead("<9.9.9", 0, 998);
        Checks.dueRead("<0.1", 0, 9);
        Checks.dueRead("<0.0.1", 0, 0);
        Checks.dueReadEmpty("<0");
        Checks.dueReadEmpty("<0.0");
        Checks.dueReadEmpty("<0.0.0");
    }

    private static void upTo() {
        Checks.dueRead("<=3", 0, 399);
        Checks.dueRead("<=3.4", 0, 349);
        Checks.dueRead("<=3.4.5", 0, 345);
        Checks.dueRead("<=0", 0, 99);
        Checks.dueRead("<=0.0", 0, 9);
        Checks.dueRead("<=0.0.0", 0, 0);
        Checks.dueRead("<=9", 0, 999);
        Checks.dueRead("<=9.9", 0, 999);
        Checks.dueRead("<=9.9.9", 0, 999);
    }

    private static void above() {
        Checks.dueRead(">3", 400, 999);
        Checks.dueRead(">3.4", 350, 999);
        Checks.dueRead(">3.4.5", 346, 999);
        Checks.dueRead(">0", 100, 999);
        Checks.dueRead(">0.0.0", 1, 999);
        Checks.dueRead(">9.8", 990, 999);
        Checks.dueRead(">9.9.8", 999, 999);
        Checks.dueReadEmpty(">9");
        Checks.dueReadEmpty(">9.9");
        Checks.dueReadEmpty(">9.9.9");
    }

    private static void from() {
        Checks.dueRead(">=3", 300, 999);
        Checks.dueRead(">=3.4", 340, 999);
        Checks.dueRead(">=3.4.5", 345, 999);
        Checks.dueRead(">=0", 0, 999);
        Checks.dueRead(">=0.0", 0, 999);
        Checks.dueRead(">=0.0.0", 0, 999);
        Checks.dueRead(">=9", 900, 999);
        Checks.dueRead(">=9.9", 990, 999);
        Checks.dueRead(">=9.9.9", 999, 999);
    }

    private static void spans() {
        Checks.dueRead("1-2", 100, 299);
        Checks.dueRead("1.5-2", 150, 299);
        Checks.dueRead("1-2.5", 100, 259);
        Checks.dueRead("1.2.3-4.5.6", 123, 456);
        Checks.dueRead("0-9", 0, 999);
        Checks.dueRead("0.0.0-9.9.9", 0, 999);
        Checks.dueRead("3-3", 300, 399);
        Checks.dueRead("3.4-3.4", 340, 349);
        Checks.dueRead("1.2-1.2.5", 120, 125);
        // Not none, though LOW of p is above LOW of q.
        Checks.dueRead("1.2-1", 120, 199);
        Checks.dueRead("1.2.5-1.2", 125, 129);
        Checks.dueRead("1.2.9-1.2", 129, 129);
        Checks.dueRead("1.9.9-1", 199, 199);
        Checks.dueRead("0.0.0-0.0.0", 0, 0);
        Checks.dueRead("7.7.7-7.7.7", 777, 777);
        Checks.dueRead("9.9.9-9", 999, 999);
    }

    private static void spansOfNone() {
        Checks.dueReadEmpty("1.2.4-1.2.3");
        Checks.dueReadEmpty("1.3-1.2");
        Checks.dueReadEmpty("1.3.0-1.2");
        Checks.dueReadEmpty("2-1");
        Checks.dueReadEmpty("2.0.0-1");
        Checks.dueReadEmpty("2-1.9.9");
        Checks.dueReadEmpty("0.0.1-0.0.0");
        Checks.dueReadEmpty("9.9.9-9.9.8");
        Checks.dueReadEmpty("9-0");
        Checks.dueReadEmpty("9.9.9-0.0.0");
    }

    private static void tildeOfOne() {
        Checks.dueRead("~0", 0, 99);
        Checks.dueRead("~3", 300, 399);
        Checks.dueRead("~9", 900, 999);
    }

    private static void tildeOfMore() {
        Checks.dueRead("~3.4", 340, 349);
        Checks.dueRead("~3.4.5", 345, 349);
        Checks.dueRead("~3.0", 300, 309);
        Checks.dueRead("~3.0.0", 300, 309);
        Checks.dueRead("~0.4", 40, 49);
        Checks.dueRead("~0.0", 0, 9);
        Checks.dueRead("~0.0.0", 0, 9);
        Checks.dueRead("~0.0.7", 7, 9);
        Checks.dueRead("~3.4.9", 349, 349);
        Checks.dueRead("~9.9", 990, 999);
        Checks.dueRead("~9.9.9", 999, 999);
    }

    private static void caretOfMajor() {
        Checks.dueRead("^3", 300, 399);
        Checks.dueRead("^3.4", 340, 399);
        Checks.dueRead("^3.4.5", 345, 399);
        Checks.dueRead("^3.0", 300, 399);
        Checks.dueRead("^3.0.0", 300, 399);
        Checks.dueRead("^3.0.7", 307, 399);
        Checks.dueRead("^1.0.0", 100, 199);
        Checks.dueRead("^1.9.9", 199, 199);
        Checks.dueRead("^9.9.9", 999, 999);
    }

    private static void caretOfOneDigit() {
        Checks.dueRead("^0", 0, 99);
    }

    private static void caretOfMinor() {
        Checks.dueRead("^0.4", 40, 49);
        Checks.dueRead("^0.4.5", 45, 49);
        Checks.dueRead("^0.1.0", 10, 19);
        Checks.dueRead("^0.9.9", 99, 99);
        Checks.dueRead("^0.9", 90, 99);
    }

    private static void caretOfTwoDigits() {
        Checks.dueRead("^0.0", 0, 9);
    }

    private static void caretOfPatch() {
        for (int z = 0; z <= 9; z++) {
            Checks.dueRead("^0.0." + z, z, z);
        }
    }

    private static void clauses() {
        Checks.dueRead(">=1.2 <3", 120, 299);
        Checks.dueRead("<3 >=1.2", 120, 299);
        Checks.dueRead("* * 1", 100, 199);
        Checks.dueRead("1 1.2 1.2.3", 123, 123);
        Checks.dueRead("1.2.3 1.2 1", 123, 123);
        Checks.dueRead("1-5 3-8 ^4.2", 420, 499);
        Checks.dueRead("<=1.2.3 >=1.2.3", 123, 123);
        Checks.dueReadEmpty("<1.2.3 >=1.2.3");
        Checks.dueReadEmpty("1 2");
        Checks.dueReadEmpty("1 2 *");
        Checks.dueReadEmpty("2 <0 *");
        Checks.dueReadEmpty("2-1 *");
        Checks.dueReadEmpty("* 2-1 1");
    }

    private static void ranges() {
        Checks.dueRead("1|2|3", 100, 399);
        Checks.dueRead("3|1|2", 100, 399);
        Checks.dueRead("1-4|3-6", 100, 699);
        Checks.dueRead("1.2.3|*", 0, 999);
        Checks.dueRead("*|1.2.3", 0, 999);
        Checks.dueRead("2-1|4", 400, 499);
        Checks.dueRead("1 2|4", 400, 499);
        Checks.dueRead("4|1 2", 400, 499);
        Checks.dueRead("<0|4|>9", 400, 499);
        Checks.dueReadEmpty("<0|>9|2-1|1 2");
        SemverRanges x = Checks.with("<1 >0.8|>9.8 *|5.5.5|5.5.7 5.5");
        Checks.due("four clauses: count", x.count(0), 22);
        Checks.due("four clauses: stretches", x.stretches(0), 4);
        Checks.due("four clauses: first", x.atLeast(0, 0), 90);
        Checks.due("four clauses: last of the first", x.atMost(0, 500), 99);
        Checks.due("four clauses: between", x.has(0, 556), false);
        Checks.due("four clauses: begin of the last", x.atLeast(0, 558), 990);
        SemverRanges y = Checks.with("0|2|4|6|8|0|2|4|6|8|0|2|4|6|8|0|2|4|6|8");
        Checks.due("twenty clauses: count", y.count(0), 500);
        Checks.due("twenty clauses: stretches", y.stretches(0), 5);
    }
}
