import java.util.BitSet;
import java.util.regex.Pattern;

/** Every call against a second model that is written after the document in another way: BitSet and a pattern. */
public final class ModelTest {
    private static final String PARTIAL = "[0-9](\\.[0-9](\\.[0-9])?)?";
    private static final String ITEM = "(\\*|(<|<=|>|>=|\\^|~)?" + PARTIAL + "|" + PARTIAL + "-" + PARTIAL + ")";
    private static final String CLAUSE = ITEM + "( " + ITEM + ")*";
    private static final Pattern RANGE = Pattern.compile(CLAUSE + "(\\|" + CLAUSE + ")*");

    private static final String SIGNS = "019 *.|<>=^~-";
    private static final String[] MARKS = {"", "<", "<=", ">", ">=", "^", "~"};

    private static long seed = 20261115L;

    private final SemverRanges x = new SemverRanges();
    private final BitSet[] sets = {new BitSet(), new BitSet(), new BitSet(), new BitSet()};
    private String text = "";

    public static void main(String[] args) {
        everyShortText();
        everyMarkedItem();
        everySpanOfSome();
        mixedRuns();
        Checks.end();
    }

    private static void everyShortText() {
        int texts = 1;
        for (int length = 0; length <= 5; length++) {
            for (int n = 0; n < texts; n++) {
                StringBuilder made = new StringBuilder();
                for (int i = 0, rest = n; i < length; i++, rest /= SIGNS.length()) {
                    made.append(SIGNS.charAt(rest % SIGNS.length()));
                }
                dueRead(made.toString());
            }
            texts *= SIGNS.length();
        }
    }

    private static void everyMarkedItem() {
        for (String mark : MARKS) {
            for (int v = 0; v <= 999; v++) {
                String digits = String.format("%03d", v);
                dueRead(mark + digits.charAt(0) + "." + digits.charAt(1) + "." + digits.charAt(2));
                dueRead(mark + digits.charAt(0) + "." + digits.charAt(1));
                dueRead(mark + digits.charAt(0));
            }
        }
    }

    private static void everySpanOfSome() {
        String[] some = {"0", "1", "9", "0.0", "0.1", "1.0", "1.1", "9.9", "0.0.0", "0.0.9", "1.0.0", "1.1.1", "9.9.9"};
        for (String p : some) {
            for (String q : some) {
                dueRead(p + "-" + q);
            }
        }
    }

    /** A new object reads the text; its whole set is looked at through few calls. */
    private static void dueRead(String made) {
        ModelTest m = new ModelTest();
        for (int i = 0; i < made.length(); i++) {
            m.type(made.charAt(i));
        }
        m.read(0);
        m.dueStretchEnds(0);
        m.wipe();
    }

    private static void mixedRuns() {
        for (int run = 0; run < 3000; run++) {
            ModelTest m = new ModelTest();
            // A step takes 42 calls at most, and an object is good for 512.
            for (int step = 0, calls = 0; calls <= 512 - 42; step++) {
                calls += m.step(run % 3);
            }
        }
    }

    /** Does some calls and answers how many. Kind 0 mixes all, 1 makes many stretches, 2 has wrong numbers. */
    private int step(int kind) {
        int chance = below(kind == 1 ? 8 : 16);
        if (chance < 4) {
            String made = kind == 1 ? manyVersions() : someText();
            for (int i = 0; i < made.length(); i++) {
                type(made.charAt(i));
            }
            read(range(kind));
            return made.length() + 1;
        }
        if (chance == 4 || chance == 5) {
            join(range(kind), range(kind), range(kind));
        } else if (chance == 6) {
            meet(range(kind), range(kind), range(kind));
        } else if (chance == 7) {
            invert(range(kind), range(kind));
        } else if (chance == 8) {
            wipe();
        } else if (chance == 9) {
            type((char) below(128));
        } else {
            ask(range(kind), range(kind), below(4) == 0 ? below(3000) - 1000 : below(1000));
            return 6;
        }
        return 1;
    }

    private static int range(int kind) {
        return kind == 2 ? below(8) - 2 : below(4);
    }

    private static String someText() {
        StringBuilder made = new StringBuilder(someItem());
        while (below(3) != 0) {
            String more = (below(2) == 0 ? " " : "|") + someItem();
            if (made.length() + more.length() <= 40) {
                made.append(more);
            }
        }
        if (below(6) == 0) {
            made.setCharAt(below(made.length()), SIGNS.charAt(below(SIGNS.length())));
        }
        return made.toString();
    }

    private static String someItem() {
        int chance = below(10);
        if (chance == 0) {
            return "*";
        }
        return chance < 3 ? somePartial() + "-" + somePartial() : MARKS[below(MARKS.length)] + somePartial();
    }

    private static String somePartial() {
        String made = "" + below(10);
        for (int more = below(3); more > 0; more--) {
            made += "." + (below(3) == 0 ? 0 : below(10));
        }
        return made;
    }

    private static String manyVersions() {
        StringBuilder made = new StringBuilder();
        for (int i = 0; i < 6; i++) {
            made.append(i == 0 ? "" : "|");
            made.append(below(10)).append('.').append(below(10)).append('.').append(below(10));
        }
        return made.toString();
    }

    /** A fixed row of numbers, the same in every run. */
    private static int below(int bound) {
        seed = seed * 6364136223846793005L + 1442695040888963407L;
        return (int) ((seed >>> 33) % bound);
    }

    private void type(char c) {
        int want;
        if (text.length() == 40) {
            want = Checks.FULL;
        } else if ("0123456789 *.|<>=^~-".indexOf(c) < 0) {
            want = Checks.BAD;
        } else {
            text += c;
            want = text.length();
        }
        Checks.due("type((char) " + (int) c + ")", x.type(c), want);
    }

    private void wipe() {
        Checks.due("wipe() of \"" + text + "\"", x.wipe(), text.length());
        text = "";
    }

    private void read(int r) {
        String call = "read(" + r + ") of \"" + text + "\"";
        int want;
        if (isWrong(r)) {
            want = Checks.BAD;
        } else if (!RANGE.matcher(text).matches()) {
            want = Checks.NONE;
        } else {
            sets[r] = meant(text);
            text = "";
            want = sets[r].cardinality();
        }
        Checks.due(call, x.read(r), want);
    }

    private void meet(int d, int a, int b) {
        boolean want = false;
        if (!isWrong(d) && !isWrong(a) && !isWrong(b)) {
            BitSet made = (BitSet) sets[a].clone();
            made.and(sets[b]);
            want = keep(d, made);
        }
        Checks.due("meet(" + d + ", " + a + ", " + b + ")", x.meet(d, a, b), want);
    }

    private void join(int d, int a, int b) {
        boolean want = false;
        if (!isWrong(d) && !isWrong(a) && !isWrong(b)) {
            BitSet made = (BitSet) sets[a].clone();
            made.or(sets[b]);
            want = keep(d, made);
        }
        Checks.due("join(" + d + ", " + a + ", " + b + ")", x.join(d, a, b), want);
    }

    private void invert(int d, int a) {
        boolean want = false;
        if (!isWrong(d) && !isWrong(a)) {
            BitSet made = (BitSet) sets[a].clone();
            made.flip(0, 1000);
            want = keep(d, made);
        }
        Checks.due("invert(" + d + ", " + a + ")", x.invert(d, a), want);
    }

    private boolean keep(int d, BitSet made) {
        if (stretches(made) > 24) {
            return false;
        }
        sets[d] = made;
        return true;
    }

    private void ask(int r, int other, int v) {
        boolean wrong = isWrong(r);
        boolean has = !wrong && v >= 0 && v <= 999 && sets[r].get(v);
        boolean within = false;
        if (!wrong && !isWrong(other)) {
            BitSet left = (BitSet) sets[r].clone();
            left.andNot(sets[other]);
            within = left.isEmpty();
        }
        int above = wrong ? Checks.BAD : orNone(sets[r].nextSetBit(Math.max(v, 0)));
        int under = wrong ? Checks.BAD : orNone(sets[r].previousSetBit(Math.max(v, -1)));
        Checks.due("has(" + r + ", " + v + ")", x.has(r, v), has);
        Checks.due("count(" + r + ")", x.count(r), wrong ? Checks.BAD : sets[r].cardinality());
        Checks.due("stretches(" + r + ")", x.stretches(r), wrong ? Checks.BAD : stretches(sets[r]));
        Checks.due("atLeast(" + r + ", " + v + ")", x.atLeast(r, v), above);
        Checks.due("atMost(" + r + ", " + v + ")", x.atMost(r, v), under);
        Checks.due("within(" + r + ", " + other + ")", x.within(r, other), within);
    }

    private static int orNone(int bit) {
        return bit < 0 ? Checks.NONE : bit;
    }

    private void dueStretchEnds(int r) {
        BitSet set = sets[r];
        Checks.due("count(" + r + ")", x.count(r), set.cardinality());
        Checks.due("stretches(" + r + ")", x.stretches(r), stretches(set));
        for (int low = set.nextSetBit(0), next = 0; low >= 0; low = set.nextSetBit(next)) {
            Checks.due("atLeast(" + r + ", " + next + ")", x.atLeast(r, next), low);
            next = set.nextClearBit(low);
            Checks.due("atMost(" + r + ", " + next + ")", x.atMost(r, next), next - 1);
            Checks.due("has(" + r + ", " + next + ")", x.has(r, next), false);
        }
    }

    private static boolean isWrong(int r) {
        return r < 0 || r > 3;
    }

    private static int stretches(BitSet set) {
        int found = 0;
        for (int v = set.nextSetBit(0); v >= 0; v = set.nextSetBit(set.nextClearBit(v))) {
            found++;
        }
        return found;
    }

    private static BitSet meant(String range) {
        BitSet all = new BitSet();
        for (String clause : range.split("\\|")) {
            BitSet shared = new BitSet();
            shared.set(0, 1000);
            for (String item : clause.split(" ")) {
                shared.and(meantByItem(item));
            }
            all.or(shared);
        }
        return all;
    }

    private static BitSet meantByItem(String item) {
        if (item.equals("*")) {
            return span("000", "999");
        }
        String[] ends = item.split("-");
        if (ends.length == 2) {
            return span(low(digits(ends[0])), high(digits(ends[1])));
        }
        String p = digits(item);
        if (item.startsWith("<=")) {
            return span("000", high(p));
        }
        if (item.startsWith(">=")) {
            return span(low(p), "999");
        }
        if (item.startsWith("<")) {
            BitSet below = span("000", low(p));
            below.clear(Integer.parseInt(low(p)));
            return below;
        }
        if (item.startsWith(">")) {
            BitSet above = span(high(p), "999");
            above.clear(Integer.parseInt(high(p)));
            return above;
        }
        if (item.startsWith("~")) {
            return span(low(p), high(p.substring(0, Math.min(2, p.length()))));
        }
        if (item.startsWith("^")) {
            return span(low(p), high(caretPart(p)));
        }
        return span(low(p), high(p));
    }

    /** The digits of p that a caret holds fast. */
    private static String caretPart(String p) {
        if (p.length() == 1 || p.charAt(0) != '0') {
            return p.substring(0, 1);
        }
        return p.length() == 2 || p.charAt(1) != '0' ? p.substring(0, 2) : p;
    }

    private static String digits(String item) {
        return item.replaceAll("[^0-9]", "");
    }

    private static String low(String p) {
        return (p + "00").substring(0, 3);
    }

    private static String high(String p) {
        return (p + "99").substring(0, 3);
    }

    private static BitSet span(String low, String high) {
        BitSet set = new BitSet();
        int from = Integer.parseInt(low);
        int to = Integer.parseInt(high);
        if (from <= to) {
            set.set(from, to + 1);
        }
        return set;
    }
}
