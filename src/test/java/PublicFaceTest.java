import java.lang.reflect.Constructor;
import java.lang.reflect.Field;
import java.lang.reflect.Method;
import java.lang.reflect.Modifier;
import java.util.Set;
import java.util.TreeSet;

/** The document's public face, and that nothing else can be seen from outside. */
public final class PublicFaceTest {
    private static final Checks checks = new Checks();

    public static void main(String[] args) {
        Class<?> c = OverlapAdd.class;
        checks.isTrue("public final", Modifier.isPublic(c.getModifiers()) && Modifier.isFinal(c.getModifiers()));
        checks.isTrue("no package", c.getPackageName().isEmpty());
        checks.isTrue("no parent but Object", c.getSuperclass() == Object.class && c.getInterfaces().length == 0);
        checks.isTrue("no nested class", c.getDeclaredClasses().length == 0);
        checks.isTrue("the members of the face, and no others: " + visibleMembers(c),
                visibleMembers(c).equals(Set.of(
                        "public OverlapAdd()",
                        "public int OverlapAdd.addFrame(int)",
                        "public int OverlapAdd.pull()",
                        "public int OverlapAdd.pending()",
                        "public int OverlapAdd.at(int)")));
        checks.end();
    }

    private static Set<String> visibleMembers(Class<?> c) {
        Set<String> seen = new TreeSet<>();
        for (Constructor<?> m : c.getDeclaredConstructors()) {
            addIfVisible(seen, m.getModifiers(), m.toString());
        }
        for (Method m : c.getDeclaredMethods()) {
            addIfVisible(seen, m.getModifiers(), m.toString());
        }
        for (Field f : c.getDeclaredFields()) {
            addIfVisible(seen, f.getModifiers(), f.toString());
        }
        return seen;
    }

    private static void addIfVisible(Set<String> seen, int modifiers, String text) {
        if (!Modifier.isPrivate(modifiers)) {
            seen.add(text);
        }
    }
}
