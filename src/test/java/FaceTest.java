import java.lang.reflect.Constructor;
import java.lang.reflect.Field;
import java.lang.reflect.Member;
import java.lang.reflect.Method;
import java.lang.reflect.Modifier;
import java.util.Arrays;
import java.util.Set;
import java.util.TreeSet;

/** The public face is that of the document, and nothing else can be seen from outside. */
public final class FaceTest {
    private static final Set<String> FACE = Set.of(
        "int CHOICES 0", "int ORDERS 1", "int GROUPINGS 2", "int NESTINGS 3", "int PARTS 4",
        "int BAD -1", "int NONE -2",
        "RankedObjects[]",
        "boolean choose[int, int, int]", "int count[]", "int number[]", "int item[int]", "int go[int]",
        "int next[]", "int previous[]", "int firstLike[int]", "int like[int]", "int difference[int]",
        "int mirrored[]");

    private static int wrong = 0;

    public static void main(String[] args) throws IllegalAccessException {
        checkFace();
        System.out.println(wrong == 0 ? "the face is as due" : wrong + " faults in the face");
        if (wrong != 0) {
            System.exit(1);
        }
    }

    private static void due(String what, Object got, Object want) {
        if (!got.equals(want)) {
            wrong++;
            System.out.println(what + " is " + got + ", due is " + want);
        }
    }

    private static void add(Set<String> face, Member member, String text) {
        if (!Modifier.isPrivate(member.getModifiers())) {
            due(text + ": public", Modifier.isPublic(member.getModifiers()), true);
            face.add(text);
        }
    }

    private static String types(Class<?>[] types) {
        return Arrays.toString(Arrays.stream(types).map(Class::getSimpleName).toArray());
    }

    private static void checkFace() throws IllegalAccessException {
        Class<?> type = RankedObjects.class;
        Set<String> face = new TreeSet<>();
        for (Field f : type.getDeclaredFields()) {
            if (Modifier.isPublic(f.getModifiers()) && Modifier.isStatic(f.getModifiers())) {
                add(face, f, f.getType().getSimpleName() + " " + f.getName() + " " + f.get(null));
            } else {
                add(face, f, f.getName());
            }
        }
        for (Constructor<?> c : type.getDeclaredConstructors()) {
            add(face, c, type.getSimpleName() + types(c.getParameterTypes()));
        }
        for (Method m : type.getDeclaredMethods()) {
            String name = m.getReturnType().getSimpleName() + " " + m.getName();
            add(face, m, name + types(m.getParameterTypes()));
        }
        due("the face", face, new TreeSet<>(FACE));
        due("class public", Modifier.isPublic(type.getModifiers()), true);
        due("class final", Modifier.isFinal(type.getModifiers()), true);
        due("nested classes", type.getDeclaredClasses().length, 0);
    }
}
