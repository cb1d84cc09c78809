/** The terms, rule by rule: which texts are a range. What a range means is left to the other tests. */
public final class GrammarTest {
    // 36 characters, so that an end of four more fills the text.
    private static final String ALMOST_FULL = "1.2.3|2.3.4|3.4.5|4.5.6|5.6.7|6.7.8|";

    public static void main(String[] args) {
        Checks.sentence("a TEXT of up to 40 characters", GrammarTest::fullTexts);
        Checks.sentence("with no further characters", GrammarTest::furtherCharacters);
        Checks.sentence("blanks are allowed only where the grammar has them", GrammarTest::blanks);
        Checks.sentence("range = clause { \"|\" clause }", GrammarTest::ranges);
        Checks.sentence("clause = item { \" \" item }", GrammarTest::clauses);
        Checks.sentence("(one blank between items)", GrammarTest::oneBlank);
        Checks.sentence("item = \"*\"", GrammarTest::stars);
        Checks.sentence("item = compare partial", GrammarTest::compares);
        Checks.sentence("item = \"^\" partial | \"~\" partial", GrammarTest::caretsAndTildes);
        Checks.sentence("item = partial \"-\" partial", GrammarTest::spans);
        Checks.sentence("partial = digit [ \".\" digit [ \".\" digit ] ]", GrammarTest::partials);
        Checks.end();
    }

    private static void fullTexts() {
        String[] ends = {"^7.8", "~7.8", ">7.8", "7|^8", "7 <8", "^7 8", "^7|8", "^7|*", "^7 *"};
        for (String end : ends) {
            yes(ALMOST_FULL + end);
        }
        String[] noEnds = {"7-.8", "7|8|", "7 8 ", "7.8.", "7.8-", "7.8=", "7|<=", "7 >=", "7 *^", "7||~", "7.88", "^7*8", "|7.8"};
        for (String end : noEnds) {
            Checks.dueNotRead(ALMOST_FULL + end);
        }
        Checks.dueRead("* * * * * * * * * * * * * * * * * * * ^3", 300, 399);
        Checks.dueRead("3|3|3|3|3|3|3|3|3|3|3|3|3|3|3|3|3|3|3|^3", 300, 399);
        Checks.dueRead("1.0.0-8.9.9 2.0.0-7.9.9 3.0.0-6.9.9 ^4.5", 450, 499);
        Checks.dueRead("<=9.9.9 >=0.0.0 <=9.9.8 >=0.0.1 >8.9 <=9", 900, 998);
    }

    private static void furtherCharacters() {
        no("");
        no("1.2.3.4", "1.2.34", "12", "1*", "**", "*1", "1<", "1>", "1=", "1^", "1~", "*=", "*^", "*~", "*<", "*.", "*-");
        no("1-2-3", "1-2*", "1-2=", "^1^", "~1~", "<1<", "<=1=", "^1=", "1.2.3-", "1.2.3*", "1.2.3=", "1.2.3^");
    }

    private static void blanks() {
        no(" ", "  ", " 1", "1 ", " *", "* ", " 1.2.3", "1.2.3 ", " ^1", "^1 ", " 1-2", "1-2 ");
        no("< 1", "<= 1", "< =1", "< = 1", "> 1", ">= 1", "> =1", "^ 1", "~ 1");
        no("1 -2", "1- 2", "1 - 2", "1.2 - 3", "1. 2", "1 .2", "1 . 2", "1.2. 3", "1.2 .3");
        no("1 |2", "1| 2", "1 | 2", "*| *", "* |*");
    }

    private static void ranges() {
        yes("1|2", "1|2|3", "*|*", "1 2|3 4", "^1|~2|<3|4-5", "1|1");
        no("|", "||", "|1", "1|", "1||2", "1|2|", "|1|2", "*||*", "1|2||3", "1 2|");
    }

    private static void clauses() {
        yes("1 2", "1 2 3", "* *", "<1 >2", "^1 ~1 1-2 * 1.2.3 <=4");
        no("<1>2", ">1<3", ">=1<=3", "^1~1", "^1^1", "*<3", "<3*", "1-2<3", "1.2.3<4");
    }

    private static void oneBlank() {
        no("1  2", "*  *", "1   2", "1 2  3", "1  2 3", "<1  >2", "1  2|3", "3|1  2");
    }

    private static void stars() {
        yes("*", "* *", "*|*");
        no("**", "<*", "<=*", ">*", ">=*", "=*", "^*", "~*", "*-1", "1-*", "*-*", "*.1", "1.*", "1.2.*", "*.*");
    }

    private static void compares() {
        yes("<1", "<=1", ">1", ">=1", "<1.2", "<=1.2", ">1.2.3", ">=1.2.3");
        no("<", "<=", ">", ">=", "=", "=1", "==1", "=<1", "=>1", "<==1", ">==1", "<<1", ">>1", "<>1", "><1", "<=>1");
        no("1<2", "1>2", "1=2", "1<=2", "<^1", "<~1", ">^1", ">=~1");
    }

    private static void caretsAndTildes() {
        yes("^1", "~1", "^1.2", "~1.2", "^1.2.3", "~1.2.3");
        no("^", "~", "^=1", "~=1", "^^1", "~~1", "^~1", "~^1", "^<1", "^>=1", "~>1", "~<=1", "1^", "1~", "1^2", "1~2");
    }

    private static void spans() {
        yes("1-2", "1.2-3", "1-2.3", "1.2.3-4.5.6", "2-1");
        no("-", "1-", "-1", "1--2", "1-2-3", "--", "1-|2", "1|-2", "1-2-");
        no("<1-2", "<=1-2", ">1-2", ">=1-2", "^1-2", "~1-2", "1-<2", "1-<=2", "1->2", "1-^2", "1-~2");
    }

    private static void partials() {
        yes("1", "1.2", "1.2.3", "0", "0.0", "0.0.0", "9", "9.9", "9.9.9");
        no(".", "..", "1.", ".1", "1..2", "1.2.", "1.2..3", "1.2.3.", "1.2.3.4", "..1", ".1.2");
        no("12", "1.23", "1.2.34", "00", "01.2", "1.-2", "1-2.", "1-.2", "1-23", "12-3", "^1.", "^.1", "<1.", "~12");
    }

    private static void yes(String... texts) {
        for (String text : texts) {
            SemverRanges x = new SemverRanges();
            Checks.type(x, text);
            Checks.due("read(0) of \"" + text + "\" is a count", x.read(0) >= 0, true);
            Checks.due("wipe() after it", x.wipe(), 0);
        }
    }

    /** What is not a range is none as a part of a longer text either. */
    private static void no(String... texts) {
        for (String text : texts) {
            Checks.dueNotRead(text);
            Checks.dueNotRead("3|" + text);
            Checks.dueNotRead("3 " + text);
            Checks.dueNotRead(text + "|3");
            Checks.dueNotRead(text + " 3");
        }
    }
}
