import java.lang.reflect.Constructor;
import java.lang.reflect.Field;
import java.lang.reflect.Method;
import java.lang.reflect.Modifier;
import java.util.Set;
import java.util.TreeSet;

/** The public face is the document's, and nothing else of the class can be seen from outside. */
public final class FaceTest {
    private static final Set<String> FACE = Set.of(
        "public MerkleLog()",
        "public int MerkleLog.append(int)",
        "public int MerkleLog.root(int)",
        "public int MerkleLog.path(int,int)",
        "public int MerkleLog.steps(int,int)",
        "public int MerkleLog.hand(int)",
        "public int MerkleLog.held()",
        "public int MerkleLog.alter(int,int)",
        "public void MerkleLog.drop()",
        "public int MerkleLog.take(int)",
        "public int MerkleLog.rootFrom(int,int,int)");

    private static final Check check = new Check();

    public static void main(String[] args) {
        check.test("the public face: one class", FaceTest::oneClass);
        check.test("the public face: the document's members and no others", FaceTest::members);
        check.finish();
    }

    private static void oneClass() {
        int kind = MerkleLog.class.getModifiers();
        check.holds("the class is public and final", Modifier.isPublic(kind) && Modifier.isFinal(kind));
        check.holds("the class extends Object alone", MerkleLog.class.getSuperclass() == Object.class);
        check.holds("the class implements nothing", MerkleLog.class.getInterfaces().length == 0);
        check.holds("no class is nested", MerkleLog.class.getDeclaredClasses().length == 0);
    }

    private static void members() {
        Set<String> seen = seenFromOutside();
        check.holds("the face " + seen + " is the document's " + new TreeSet<>(FACE), seen.equals(FACE));
    }

    private static Set<String> seenFromOutside() {
        Set<String> seen = new TreeSet<>();
        for (Constructor<?> constructor : MerkleLog.class.getDeclaredConstructors()) {
            if (!Modifier.isPrivate(constructor.getModifiers())) {
                seen.add(constructor.toString());
            }
        }
        for (Method method : MerkleLog.class.getDeclaredMethods()) {
            if (!Modifier.isPrivate(method.getModifiers())) {
                seen.add(method.toString());
            }
        }
        for (Field field : MerkleLog.class.getDeclaredFields()) {
            if (!Modifier.isPrivate(field.getModifiers())) {
                seen.add(field.toString());
            }
        }
        return seen;
    }
}
