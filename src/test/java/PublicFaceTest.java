import java.lang.reflect.Constructor;
import java.lang.reflect.Field;
import java.lang.reflect.Method;
import java.lang.reflect.Modifier;
import java.util.Set;
import java.util.TreeSet;

/** The face is the document's, whole and no wider: what else there is, is private. */
public final class PublicFaceTest {
    private static final Set<String> FACE = Set.of(
            "public TightRange()",
            "public int TightRange.set(int,int,int)",
            "public int TightRange.combine(int,int,int,int)",
            "public int TightRange.apply(int,int,int)",
            "public int TightRange.low(int)",
            "public int TightRange.high(int)",
            "public int TightRange.less(int,int)",
            "public int TightRange.apart(int,int)");

    public static void main(String[] args) {
        Set<String> open = new TreeSet<>();
        for (Constructor<?> c : TightRange.class.getDeclaredConstructors()) {
            addIfOpen(open, c.getModifiers(), c.toString());
        }
        for (Method m : TightRange.class.getDeclaredMethods()) {
            addIfOpen(open, m.getModifiers(), m.toString());
        }
        for (Field f : TightRange.class.getDeclaredFields()) {
            addIfOpen(open, f.getModifiers(), f.toString());
        }
        if (!open.equals(FACE)) {
            Check.fault("the face is " + open + ", due is " + new TreeSet<>(FACE));
        }
        int modifiers = TightRange.class.getModifiers();
        if (!Modifier.isPublic(modifiers) || !Modifier.isFinal(modifiers)) {
            Check.fault("the class is not public and final");
        }
        Check.end();
    }

    private static void addIfOpen(Set<String> open, int modifiers, String member) {
        if (!Modifier.isPrivate(modifiers)) {
            open.add(member);
        }
    }
}
