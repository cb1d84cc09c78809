/** Promises 1 to 3: a new object, type and wipe. */
public final class TextTest {
    private static final String ALLOWED = "0123456789 *.|<>=^~-";

    public static void main(String[] args) {
        newObject();
        everyCharacter();
        fullText();
        wiping();
        refusedCharacterLeavesText();
        Checks.end();
    }

    private static void newObject() {
        SemverRanges x = new SemverRanges();
        for (int r = 0; r < 4; r++) {
            Checks.dueEmpty("new", x, r);
            Checks.due("new: has(" + r + ", 0)", x.has(r, 0), false);
            Checks.due("new: has(" + r + ", 999)", x.has(r, 999), false);
            Checks.due("new: read(" + r + ") of no text", x.read(r), Checks.NONE);
        }
        Checks.due("new: wipe()", x.wipe(), 0);
        SemverRanges y = new SemverRanges();
        Checks.set(y, 0, "*");
        Checks.due("an object knows nothing of another", x.count(0), 0);
    }

    private static void everyCharacter() {
        for (int c = 0; c <= 65535; c++) {
            SemverRanges x = new SemverRanges();
            boolean allowed = ALLOWED.indexOf((char) c) >= 0;
            Checks.due("type((char) " + c + ")", x.type((char) c), allowed ? 1 : Checks.BAD);
            Checks.due("wipe() after it", x.wipe(), allowed ? 1 : 0);
        }
    }

    private static void fullText() {
        SemverRanges x = new SemverRanges();
        String forty = "1.2.3|2.3.4|3.4.5|4.5.6|5.6.7|6.7.8|^7.8";
        for (int i = 0; i < 39; i++) {
            Checks.due("type number " + (i + 1), x.type(forty.charAt(i)), i + 1);
        }
        Checks.due("type of a wrong character at 39", x.type('x'), Checks.BAD);
        Checks.due("type number 40", x.type(forty.charAt(39)), 40);
        Checks.due("type number 41", x.type('1'), Checks.FULL);
        Checks.due("FULL comes before BAD", x.type('x'), Checks.FULL);
        Checks.due("read of 40 characters", x.read(0), 26);
        Checks.due("type after read", x.type('|'), 1);
        Checks.type(x, forty);
        Checks.due("wipe of a full text", x.wipe(), 40);
        Checks.due("type after wipe", x.type('1'), 1);
    }

    private static void wiping() {
        SemverRanges x = new SemverRanges();
        Checks.due("wipe of nothing", x.wipe(), 0);
        Checks.type(x, "1.2");
        Checks.due("wipe of 3", x.wipe(), 3);
        Checks.due("wipe again", x.wipe(), 0);
        Checks.due("type after wipe", x.type('4'), 1);
        Checks.due("what was wiped is not read", x.read(0), 100);
        Checks.due("low", x.atLeast(0, 0), 400);
        Checks.type(x, "5.1.1");
        x.wipe();
        Checks.due("wipe leaves the ranges", x.count(0), 100);
    }

    private static void refusedCharacterLeavesText() {
        SemverRanges x = new SemverRanges();
        Checks.type(x, "1");
        Checks.due("type('a')", x.type('a'), Checks.BAD);
        Checks.due("type('.') after it", x.type('.'), 2);
        Checks.due("type('2') after it", x.type('2'), 3);
        Checks.due("read", x.read(0), 10);
        Checks.due("low", x.atLeast(0, 0), 120);
    }
}
