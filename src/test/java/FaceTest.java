import java.lang.reflect.Constructor;
import java.lang.reflect.Field;
import java.lang.reflect.Method;
import java.lang.reflect.Modifier;
import java.util.ArrayList;
import java.util.List;
import java.util.TreeSet;

/** The class has the document's face and no other member that is not private. */
public final class FaceTest {
    private static final String[] FACE = {
        "public static final int MixedNumbers.BAD",
        "public MixedNumbers()",
        "public boolean MixedNumbers.whole(int,long)",
        "public boolean MixedNumbers.real(int,long,int)",
        "public boolean MixedNumbers.special(int,int)",
        "public int MixedNumbers.operate(int,int,int,int)",
        "public int MixedNumbers.compare(int,int,int)",
        "public int MixedNumbers.kind(int)",
        "public long MixedNumbers.number(int)",
        "public int MixedNumbers.exponent(int)",
        "public boolean MixedNumbers.sum(int,int,int)",
        "public boolean MixedNumbers.polynomial(int,int,int,int)",
        "public boolean MixedNumbers.sort(int,int)"};

    public static void main(String[] args) {
        Check check = new Check();
        Class<?> face = MixedNumbers.class;
        check.due("final", Modifier.isFinal(face.getModifiers()), true);
        check.due("public", Modifier.isPublic(face.getModifiers()), true);
        TreeSet<String> due = new TreeSet<>(List.of(FACE));
        TreeSet<String> names = new TreeSet<>();
        List<String> found = new ArrayList<>();
        for (Method m : face.getDeclaredMethods()) {
            if (!Modifier.isPrivate(m.getModifiers())) {
                found.add(m.toString());
                names.add(m.getName());
            }
        }
        for (Method m : face.getDeclaredMethods()) {
            boolean isPrivate = Modifier.isPrivate(m.getModifiers());
            check.due(m + " has the name of a public one", isPrivate && names.contains(m.getName()), false);
        }
        for (Constructor<?> c : face.getDeclaredConstructors()) {
            found.add(c.toString());
        }
        for (Field f : face.getDeclaredFields()) {
            if (!Modifier.isPrivate(f.getModifiers())) {
                found.add(f.toString());
            }
            boolean changes = Modifier.isStatic(f.getModifiers()) && !Modifier.isFinal(f.getModifiers());
            check.due(f + " is static and changes", changes, false);
        }
        for (String member : found) {
            check.due(member + " in the face", due.remove(member), true);
        }
        for (String member : due) {
            check.due(member + " is missing", true, false);
        }
        for (Class<?> inside : face.getDeclaredClasses()) {
            check.due(inside + " is static", Modifier.isStatic(inside.getModifiers()), true);
            check.due(inside + " is public", Modifier.isPublic(inside.getModifiers()), false);
        }
        check.end("FaceTest");
    }
}
