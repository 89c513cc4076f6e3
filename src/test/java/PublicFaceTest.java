import java.lang.reflect.Constructor;
import java.lang.reflect.Field;
import java.lang.reflect.Method;
import java.lang.reflect.Modifier;
import java.util.Set;
import java.util.TreeSet;

/** The document's public face, and that nothing else can be seen from outside. */
public final class PublicFaceTest {
    private static final Class<?> FACE = OverlapAdd.class;
    private static final Checks checks = new Checks();

    public static void main(String[] args) {
        checks.sentence("public final class OverlapAdd", PublicFaceTest::classItself);
        checks.sentence("public OverlapAdd() .. public int at(int i)", PublicFaceTest::membersOfTheFace);
        checks.sentence("The class declares no public constants.", PublicFaceTest::noPublicConstants);
        checks.end();
    }

    private static void classItself() {
        int modifiers = FACE.getModifiers();
        checks.isTrue("public final", Modifier.isPublic(modifiers) && Modifier.isFinal(modifiers));
        checks.isTrue("no package", FACE.getPackageName().isEmpty());
        checks.isTrue("no parent but Object",
                FACE.getSuperclass() == Object.class && FACE.getInterfaces().length == 0);
        checks.isTrue("no nested class", FACE.getDeclaredClasses().length == 0);
    }

    private static void membersOfTheFace() {
        Set<String> seen = visibleMembers();
        checks.isTrue("the members of the face, and no others: " + seen,
                seen.equals(Set.of(
                        "public OverlapAdd()",
                        "public int OverlapAdd.addFrame(int)",
                        "public int OverlapAdd.pull()",
                        "public int OverlapAdd.pending()",
                        "public int OverlapAdd.at(int)")));
    }

    private static void noPublicConstants() {
        checks.equal("number of public fields", FACE.getFields().length, 0);
        for (Field field : FACE.getDeclaredFields()) {
            checks.isTrue(field.getName() + " is private", Modifier.isPrivate(field.getModifiers()));
        }
    }

    private static Set<String> visibleMembers() {
        Set<String> seen = new TreeSet<>();
        for (Constructor<?> m : FACE.getDeclaredConstructors()) {
            addIfVisible(seen, m.getModifiers(), m.toString());
        }
        for (Method m : FACE.getDeclaredMethods()) {
            addIfVisible(seen, m.getModifiers(), m.toString());
        }
        for (Field f : FACE.getDeclaredFields()) {
            addIfVisible(seen, f.getModifiers(), f.toString());
        }
        return seen;
    }

    private static void addIfVisible(Set<String> seen, int modifiers, String text) {
        if (!Modifier.isPrivate(modifiers)) {
            seen.add(text);
        }
    }
}
