/** Ranges of versions, read from text and put together as sets; the document says what each call promises. */
public final class SemverRanges {
    public static final int BAD = -1;
    public static final int FULL = -2;
    public static final int NONE = -3;

    private static final int RANGES = 4;
    private static final int VERSIONS = 1000;
    private static final int LAST_VERSION = 999;
    private static final int MOST_STRETCHES = 24;
    private static final int TEXT_SIZE = 40;

    // One set beyond the ranges: a result is made there first, so that a refused call leaves range d alone
    // and d may be the same range as a or b.
    private static final int RESULT = 4;
    private static final int ALL_CELLS = 5000;

    // What stands before a partial.
    private static final int NOTHING = 0;
    private static final int LESS = 1;
    private static final int LESS_OR_EQUAL = 2;
    private static final int GREATER = 3;
    private static final int GREATER_OR_EQUAL = 4;
    private static final int CARET = 5;
    private static final int TILDE = 6;

    // Whether version v is in set s stands at s * VERSIONS + v. Marks, and not a list of intervals, as a list would
    // have to be kept sorted and merged.
    private final boolean[] members = new boolean[ALL_CELLS];

    private final char[] text = new char[TEXT_SIZE];
    private int textLength = 0;

    // Where the reading of the text stands, and what it has read last. An item is empty if its low is above its high.
    private int place = 0;
    private int partialDigits = 0;
    private int partialLow = 0;
    private int partialHigh = 0;
    private int itemLow = 0;
    private int itemHigh = 0;

    public SemverRanges() {
    }

    public int type(char c) {
        if (textLength >= TEXT_SIZE) {
            return FULL;
        }
        if (!isTextCharacter(c)) {
            return BAD;
        }
        text[textLength] = c;
        textLength++;
        return textLength;
    }

    public int wipe() {
        int had = textLength;
        textLength = 0;
        return had;
    }

    public int read(int r) {
        if (!isRange(r)) {
            return BAD;
        }
        if (!readText()) {
            return NONE;
        }
        // Never refused: 40 characters hold at most 20 clauses, and a clause is at most one stretch.
        keepResult(r);
        textLength = 0;
        return countMembers(r);
    }

    public boolean meet(int d, int a, int b) {
        if (!isRange(d) || !isRange(a) || !isRange(b)) {
            return false;
        }
        for (int v = 0; v < VERSIONS; v++) {
            members[RESULT * VERSIONS + v] = members[a * VERSIONS + v] && members[b * VERSIONS + v];
        }
        return keepResult(d);
    }

    public boolean join(int d, int a, int b) {
        if (!isRange(d) || !isRange(a) || !isRange(b)) {
            return false;
        }
        for (int v = 0; v < VERSIONS; v++) {
            members[RESULT * VERSIONS + v] = members[a * VERSIONS + v] || members[b * VERSIONS + v];
        }
        return keepResult(d);
    }

    public boolean invert(int d, int a) {
        if (!isRange(d) || !isRange(a)) {
            return false;
        }
        for (int v = 0; v < VERSIONS; v++) {
            members[RESULT * VERSIONS + v] = !members[a * VERSIONS + v];
        }
        return keepResult(d);
    }

    public boolean has(int r, int version) {
        if (!isRange(r) || version < 0 || version > LAST_VERSION) {
            return false;
        }
        return members[r * VERSIONS + version];
    }

    public int count(int r) {
        if (!isRange(r)) {
            return BAD;
        }
        return countMembers(r);
    }

    public int atLeast(int r, int version) {
        if (!isRange(r)) {
            return BAD;
        }
        int first = version < 0 ? 0 : version;
        for (int v = first; v < VERSIONS; v++) {
            if (members[r * VERSIONS + v]) {
                return v;
            }
        }
        return NONE;
    }

    public int atMost(int r, int version) {
        if (!isRange(r)) {
            return BAD;
        }
        int last = version > LAST_VERSION ? LAST_VERSION : version;
        for (int v = last; v >= 0; v--) {
            if (members[r * VERSIONS + v]) {
                return v;
            }
        }
        return NONE;
    }

    public int stretches(int r) {
        if (!isRange(r)) {
            return BAD;
        }
        return countStretches(r);
    }

    public boolean within(int a, int b) {
        if (!isRange(a) || !isRange(b)) {
            return false;
        }
        for (int v = 0; v < VERSIONS; v++) {
            if (members[a * VERSIONS + v] && !members[b * VERSIONS + v]) {
                return false;
            }
        }
        return true;
    }

    private static boolean isRange(int r) {
        return r >= 0 && r < RANGES;
    }

    private static boolean isTextCharacter(char c) {
        boolean isDigit = c >= '0' && c <= '9';
        boolean isSetSign = c == ' ' || c == '|' || c == '*';
        boolean isOrderSign = c == '<' || c == '>' || c == '=' || c == '^' || c == '~';
        return isDigit || isSetSign || isOrderSign || c == '.' || c == '-';
    }

    private int countMembers(int set) {
        int found = 0;
        for (int v = 0; v < VERSIONS; v++) {
            if (members[set * VERSIONS + v]) {
                found++;
            }
        }
        return found;
    }

    private int countStretches(int set) {
        int found = 0;
        boolean inside = false;
        for (int v = 0; v < VERSIONS; v++) {
            boolean member = members[set * VERSIONS + v];
            if (member && !inside) {
                found++;
            }
            inside = member;
        }
        return found;
    }

    private boolean keepResult(int d) {
        if (countStretches(RESULT) > MOST_STRETCHES) {
            return false;
        }
        for (int v = 0; v < VERSIONS; v++) {
            members[d * VERSIONS + v] = members[RESULT * VERSIONS + v];
        }
        return true;
    }

    private void clearResult() {
        for (int v = 0; v < VERSIONS; v++) {
            members[RESULT * VERSIONS + v] = false;
        }
    }

    /** Adds the versions from low to high to the result; none if low is above high, as in "<0" and ">9". */
    private void addToResult(int low, int high) {
        for (int v = 0; v < VERSIONS; v++) {
            if (v >= low && v <= high) {
                members[RESULT * VERSIONS + v] = true;
            }
        }
    }

    /** Reads the whole text into the result; false if it is not a range by the grammar. */
    private boolean readText() {
        clearResult();
        place = 0;
        int clauseLow = 0;
        int clauseHigh = LAST_VERSION;
        // An item takes a character or more, so a text has fewer items than this loop has rounds.
        for (int items = 0; items <= TEXT_SIZE; items++) {
            if (!readItem()) {
                return false;
            }
            clauseLow = itemLow > clauseLow ? itemLow : clauseLow;
            clauseHigh = itemHigh < clauseHigh ? itemHigh : clauseHigh;
            if (take(' ')) {
                continue;
            }
            addToResult(clauseLow, clauseHigh);
            if (!take('|')) {
                return place == textLength;
            }
            clauseLow = 0;
            clauseHigh = LAST_VERSION;
        }
        return false;
    }

    private boolean readItem() {
        if (take('*')) {
            itemLow = 0;
            itemHigh = LAST_VERSION;
            return true;
        }
        int mark = takeMark();
        if (!readPartial()) {
            return false;
        }
        if (mark == NOTHING && take('-')) {
            itemLow = partialLow;
            if (!readPartial()) {
                return false;
            }
            itemHigh = partialHigh;
            return true;
        }
        setMarkedItem(mark);
        return true;
    }

    private int takeMark() {
        if (take('<')) {
            return take('=') ? LESS_OR_EQUAL : LESS;
        }
        if (take('>')) {
            return take('=') ? GREATER_OR_EQUAL : GREATER;
        }
        if (take('^')) {
            return CARET;
        }
        return take('~') ? TILDE : NOTHING;
    }

    private void setMarkedItem(int mark) {
        itemLow = partialLow;
        itemHigh = partialHigh;
        switch (mark) {
            case LESS:
                itemLow = 0;
                itemHigh = partialLow - 1;
                break;
            case LESS_OR_EQUAL:
                itemLow = 0;
                break;
            case GREATER:
                itemLow = partialHigh + 1;
                itemHigh = LAST_VERSION;
                break;
            case GREATER_OR_EQUAL:
                itemHigh = LAST_VERSION;
                break;
            case CARET:
                itemHigh = caretHigh();
                break;
            case TILDE:
                itemHigh = partialDigits == 1 ? lastOfMajor(partialLow) : lastOfMinor(partialLow);
                break;
            default:
                break;
        }
    }

    private int caretHigh() {
        boolean majorIsZero = partialLow < 100;
        if (!majorIsZero || partialDigits == 1) {
            return lastOfMajor(partialLow);
        }
        boolean minorIsZero = partialLow < 10;
        if (!minorIsZero || partialDigits == 2) {
            return lastOfMinor(partialLow);
        }
        return partialLow;
    }

    private static int lastOfMajor(int version) {
        return version - version % 100 + 99;
    }

    private static int lastOfMinor(int version) {
        return version - version % 10 + 9;
    }

    private boolean readPartial() {
        partialLow = 0;
        int size = VERSIONS;
        for (int digits = 1; digits <= 3; digits++) {
            int digit = takeDigit();
            if (digit < 0) {
                return false;
            }
            size = size / 10;
            partialLow = partialLow + digit * size;
            partialHigh = partialLow + size - 1;
            partialDigits = digits;
            if (digits == 3 || !take('.')) {
                return true;
            }
        }
        return false;
    }

    /** Steps over the character c if it stands at the place. */
    private boolean take(char c) {
        if (place >= textLength || text[place] != c) {
            return false;
        }
        place++;
        return true;
    }

    /** Steps over a digit and answers it; NONE if none stands at the place. */
    private int takeDigit() {
        if (place >= textLength || text[place] < '0' || text[place] > '9') {
            return NONE;
        }
        int digit = text[place] - '0';
        place++;
        return digit;
    }
}
