/** Promises 1 to 3, sentence by sentence: a new object, type and wipe. */
public final class TextTest {
    private static final String ALLOWED = "0123456789 *.|<>=^~-";
    private static final String FORTY = "1.2.3|2.3.4|3.4.5|4.5.6|5.6.7|6.7.8|^7.8";
    private static final int COUNT_OF_FORTY = 26;

    public static void main(String[] args) {
        Checks.sentence("1: Four empty ranges", TextTest::newRanges);
        Checks.sentence("1: an empty text", TextTest::newText);
        Checks.sentence("2: Adds a character to the text", TextTest::added);
        Checks.sentence("2: Tested in this order", TextTest::fullBeforeBad);
        Checks.sentence("2: 40 characters are there: FULL", TextTest::full);
        Checks.sentence("2: a character that is not a digit, blank or one of ...: BAD", TextTest::everyCharacter);
        Checks.sentence("2: (BAD adds nothing)", TextTest::badAddsNothing);
        Checks.sentence("2: Else answers the new number of characters", TextTest::newNumber);
        Checks.sentence("3: Makes the text empty", TextTest::wipedIsGone);
        Checks.sentence("3: answers how many characters it had", TextTest::wipedNumber);
        Checks.sentence("3: (wipe leaves the ranges)", TextTest::wipeLeavesRanges);
        Checks.sentence("An object is used for at most 512 calls", TextTest::lastCall);
        Checks.end();
    }

    private static void newRanges() {
        SemverRanges x = new SemverRanges();
        for (int r = 0; r < 4; r++) {
            Checks.dueEmpty("new", x, r);
            Checks.due("new: has(" + r + ", 0)", x.has(r, 0), false);
            Checks.due("new: has(" + r + ", 999)", x.has(r, 999), false);
        }
        SemverRanges y = Checks.with("*", "*", "*", "*");
        for (int r = 0; r < 4; r++) {
            Checks.due("an object knows nothing of another: count(" + r + ")", x.count(r), 0);
            Checks.due("nor the other of it: count(" + r + ")", y.count(r), 1000);
        }
        Checks.dueEmpty("one made later", new SemverRanges(), 0);
    }

    private static void newText() {
        Checks.due("wipe() as the first call", new SemverRanges().wipe(), 0);
        Checks.due("type('1') as the first call", new SemverRanges().type('1'), 1);
        for (int r = 0; r < 4; r++) {
            Checks.due("read(" + r + ") as the first call", new SemverRanges().read(r), Checks.NONE);
        }
        SemverRanges x = new SemverRanges();
        Checks.type(x, "1.2");
        Checks.due("an object knows nothing of another's text", new SemverRanges().wipe(), 0);
        Checks.due("nor does a new one change it", x.wipe(), 3);
    }

    private static void added() {
        for (int digit = 0; digit <= 9; digit++) {
            Checks.dueRead(digit + ".8.7", 100 * digit + 87, 100 * digit + 87);
        }
        // One text for each sign, with a meaning that it has by this sign alone.
        Checks.dueRead("*", 0, 999);
        Checks.dueRead("1|2", 100, 299);
        Checks.dueRead("1 1.2", 120, 129);
        Checks.dueRead("<3", 0, 299);
        Checks.dueRead(">3", 400, 999);
        Checks.dueRead("<=3", 0, 399);
        Checks.dueRead("^3.4", 340, 399);
        Checks.dueRead("~3.4.5", 345, 349);
        Checks.dueRead("3-5", 300, 599);
    }

    private static SemverRanges withFullText() {
        SemverRanges x = new SemverRanges();
        Checks.type(x, FORTY);
        return x;
    }

    private static void fullBeforeBad() {
        char[] no = {'x', 'a', '\t', '\0', '/', ':', '+', '\uffff'};
        for (char c : no) {
            SemverRanges x = new SemverRanges();
            Checks.type(x, FORTY.substring(0, 39));
            Checks.due("type((char) " + (int) c + ") at 39", x.type(c), Checks.BAD);
            Checks.due("type number 40", x.type('8'), 40);
            Checks.due("type((char) " + (int) c + ") at 40", x.type(c), Checks.FULL);
        }
    }

    private static void full() {
        for (int i = 0; i < ALLOWED.length(); i++) {
            SemverRanges x = withFullText();
            Checks.due("type('" + ALLOWED.charAt(i) + "') at 40", x.type(ALLOWED.charAt(i)), Checks.FULL);
            Checks.due("and again", x.type(ALLOWED.charAt(i)), Checks.FULL);
            Checks.due("what is FULL adds nothing", x.read(0), COUNT_OF_FORTY);
        }
        SemverRanges x = withFullText();
        x.type('1');
        Checks.due("wipe after FULL", x.wipe(), 40);
        Checks.due("type after wipe", x.type('1'), 1);
        SemverRanges y = withFullText();
        y.read(0);
        Checks.due("type after read", y.type('1'), 1);
    }

    private static void everyCharacter() {
        for (int c = 0; c <= 65535; c++) {
            SemverRanges x = new SemverRanges();
            boolean allowed = ALLOWED.indexOf((char) c) >= 0;
            Checks.due("type((char) " + c + ")", x.type((char) c), allowed ? 1 : Checks.BAD);
        }
    }

    private static void badAddsNothing() {
        for (int c = 0; c < 256; c++) {
            if (ALLOWED.indexOf((char) c) >= 0) {
                continue;
            }
            SemverRanges x = new SemverRanges();
            Checks.type(x, "1");
            x.type((char) c);
            Checks.due("type('.') after type((char) " + c + ")", x.type('.'), 2);
            x.type((char) c);
            Checks.due("type('2')", x.type('2'), 3);
            Checks.due("read", x.read(0), 10);
            Checks.due("low", x.atLeast(0, 0), 120);
        }
    }

    private static void newNumber() {
        SemverRanges x = new SemverRanges();
        for (int i = 0; i < 40; i++) {
            Checks.due("type number " + (i + 1), x.type(FORTY.charAt(i)), i + 1);
        }
        x.wipe();
        Checks.due("type after wipe", x.type('1'), 1);
        Checks.due("type after it", x.type('|'), 2);
        x.read(0);
        Checks.due("type after a read that was NONE", x.type('2'), 3);
        x.read(0);
        Checks.due("type after a read", x.type('|'), 1);
    }

    private static void wipedIsGone() {
        SemverRanges x = new SemverRanges();
        Checks.type(x, "1.2");
        x.wipe();
        Checks.due("read after wipe", x.read(0), Checks.NONE);
        Checks.due("wipe after wipe", x.wipe(), 0);
        Checks.due("type after wipe", x.type('4'), 1);
        Checks.due("what was wiped is not read", x.read(0), 100);
        Checks.due("low", x.atLeast(0, 0), 400);
        String[] wholes = {"1.2.3", "<=1", "1 2", "1|2", "1-2", "^1", "~1", "*"};
        for (String whole : wholes) {
            for (int kept = 0; kept < whole.length(); kept++) {
                wipedEndIsGone(whole, whole.substring(0, kept));
            }
        }
    }

    /** The part is typed where the whole stood: it is read without the rest of the whole. */
    private static void wipedEndIsGone(String whole, String part) {
        SemverRanges x = new SemverRanges();
        Checks.type(x, whole);
        x.wipe();
        Checks.type(x, part);
        boolean endsInDigit = !part.isEmpty() && Character.isDigit(part.charAt(part.length() - 1));
        String call = "read(0) of \"" + part + "\" after \"" + whole + "\" was wiped";
        Checks.due(call + " is a count", x.read(0) >= 0, endsInDigit);
    }

    private static void wipedNumber() {
        for (int length = 0; length <= 40; length++) {
            SemverRanges x = new SemverRanges();
            Checks.type(x, FORTY.substring(0, length));
            Checks.due("wipe of " + length, x.wipe(), length);
            Checks.due("wipe again", x.wipe(), 0);
        }
    }

    private static void wipeLeavesRanges() {
        SemverRanges x = Checks.with("0", "1", "2", "3");
        Checks.type(x, "5.1.1");
        x.wipe();
        for (int r = 0; r < 4; r++) {
            Checks.dueSpan("after wipe", x, r, 100 * r, 100 * r + 99);
        }
    }

    private static void lastCall() {
        SemverRanges x = new SemverRanges();
        for (int round = 0; round < 12; round++) {
            Checks.type(x, FORTY);
            x.wipe();
        }
        Checks.type(x, "1.2.3|2.3.4|3.4.5|4");
        Checks.due("call 512, read(3)", x.read(3), 103);
        SemverRanges y = Checks.with("^1", "~2.0");
        // The two texts took 8 calls; each range is then inverted 251 times.
        for (int call = 9; call <= 510; call++) {
            y.invert(call % 2, call % 2);
        }
        Checks.due("call 511, meet(2, 0, 1)", y.meet(2, 0, 1), true);
        Checks.due("call 512, count(2)", y.count(2), 890);
    }
}
