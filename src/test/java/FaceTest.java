import java.lang.reflect.Constructor;
import java.lang.reflect.Field;
import java.lang.reflect.Method;
import java.lang.reflect.Modifier;
import java.util.Set;
import java.util.TreeSet;

/** The public face of the document, and no other member that is not private. */
public final class FaceTest {
    private static final Set<String> FACE = Set.of(
        "public static final int SemverRanges.BAD",
        "public static final int SemverRanges.FULL",
        "public static final int SemverRanges.NONE",
        "public SemverRanges()",
        "public int SemverRanges.type(char)",
        "public int SemverRanges.wipe()",
        "public int SemverRanges.read(int)",
        "public boolean SemverRanges.meet(int,int,int)",
        "public boolean SemverRanges.join(int,int,int)",
        "public boolean SemverRanges.invert(int,int)",
        "public boolean SemverRanges.has(int,int)",
        "public int SemverRanges.count(int)",
        "public int SemverRanges.atLeast(int,int)",
        "public int SemverRanges.atMost(int,int)",
        "public int SemverRanges.stretches(int)",
        "public boolean SemverRanges.within(int,int)");

    public static void main(String[] args) {
        Set<String> found = new TreeSet<>();
        for (Field f : SemverRanges.class.getDeclaredFields()) {
            add(found, f.getModifiers(), f.toString());
        }
        for (Constructor<?> c : SemverRanges.class.getDeclaredConstructors()) {
            add(found, c.getModifiers(), c.toString());
        }
        for (Method m : SemverRanges.class.getDeclaredMethods()) {
            add(found, m.getModifiers(), m.toString());
        }
        for (String member : FACE) {
            Checks.due("the class has " + member, found.contains(member), true);
        }
        for (String member : found) {
            Checks.due("the document has " + member, FACE.contains(member), true);
        }
        int modifiers = SemverRanges.class.getModifiers();
        Checks.due("the class is public", Modifier.isPublic(modifiers), true);
        Checks.due("the class is final", Modifier.isFinal(modifiers), true);
        Checks.due("BAD", SemverRanges.BAD, -1);
        Checks.due("FULL", SemverRanges.FULL, -2);
        Checks.due("NONE", SemverRanges.NONE, -3);
        Checks.end();
    }

    private static void add(Set<String> found, int modifiers, String member) {
        if (!Modifier.isPrivate(modifiers)) {
            found.add(member);
        }
    }
}
