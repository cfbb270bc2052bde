import java.io.IOException;
import java.lang.reflect.Constructor;
import java.lang.reflect.Field;
import java.lang.reflect.Member;
import java.lang.reflect.Method;
import java.lang.reflect.Modifier;
import java.nio.file.Files;
import java.nio.file.Path;
import java.util.Arrays;
import java.util.HashSet;
import java.util.Set;
import java.util.TreeSet;
import java.util.regex.Matcher;
import java.util.regex.Pattern;

/** The public face is that of the document, and the source keeps to what a glance at it can tell. */
public final class FaceTest {
    private static final Set<String> FACE = Set.of(
        "int CHOICES 0", "int ORDERS 1", "int GROUPINGS 2", "int NESTINGS 3", "int PARTS 4",
        "int BAD -1", "int NONE -2",
        "RankedObjects[]",
        "boolean choose[int, int, int]", "int count[]", "int number[]", "int item[int]", "int go[int]",
        "int next[]", "int previous[]", "int firstLike[int]", "int like[int]", "int difference[int]",
        "int mirrored[]");

    private static final String[] FORBIDDEN = {
        "import", "package", "throw", "throws", "try", "catch", "finally", "synchronized", "assert",
        "instanceof", "null", "float", "double", "String", "Math", "Integer", "Long", "System", "Arrays",
        "Object", "interface", "enum", "record", "protected", "getClass", "hashCode", "equals", "toString",
        "->", "::",
    };

    private static int wrong = 0;

    public static void main(String[] args) throws Exception {
        checkFace();
        checkFields();
        checkMethods();
        checkSource();
        System.out.println(wrong == 0 ? "the face is as due" : wrong + " faults in the face");
        if (wrong != 0) {
            System.exit(1);
        }
    }

    private static void due(String what, Object got, Object want) {
        if (!got.equals(want)) {
            wrong++;
            System.out.println(what + " is " + got + ", due is " + want);
        }
    }

    private static void add(Set<String> face, Member member, String text) {
        if (!Modifier.isPrivate(member.getModifiers())) {
            due(text + ": public", Modifier.isPublic(member.getModifiers()), true);
            face.add(text);
        }
    }

    private static String types(Class<?>[] types) {
        return Arrays.toString(Arrays.stream(types).map(Class::getSimpleName).toArray());
    }

    private static void checkFace() throws IllegalAccessException {
        Class<?> type = RankedObjects.class;
        Set<String> face = new TreeSet<>();
        for (Field f : type.getDeclaredFields()) {
            if (Modifier.isPublic(f.getModifiers()) && Modifier.isStatic(f.getModifiers())) {
                add(face, f, f.getType().getSimpleName() + " " + f.getName() + " " + f.get(null));
            } else {
                add(face, f, f.getName());
            }
        }
        for (Constructor<?> c : type.getDeclaredConstructors()) {
            add(face, c, type.getSimpleName() + types(c.getParameterTypes()));
        }
        for (Method m : type.getDeclaredMethods()) {
            String name = m.getReturnType().getSimpleName() + " " + m.getName();
            add(face, m, name + types(m.getParameterTypes()));
        }
        due("the face", face, new TreeSet<>(FACE));
        due("class public", Modifier.isPublic(type.getModifiers()), true);
        due("class final", Modifier.isFinal(type.getModifiers()), true);
        due("nested classes", type.getDeclaredClasses().length, 0);
    }

    private static void checkFields() {
        int fields = 0;
        for (Field f : RankedObjects.class.getDeclaredFields()) {
            Class<?> type = f.getType();
            Class<?> cell = type.isArray() ? type.getComponentType() : type;
            due(f.getName() + ": of a number type", cell.isPrimitive(), true);
            if (Modifier.isStatic(f.getModifiers())) {
                due(f.getName() + ": a constant", Modifier.isFinal(f.getModifiers()) && !type.isArray(), true);
            } else {
                fields++;
            }
        }
        due("at most forty fields", fields <= 40, true);
    }

    private static void checkMethods() {
        Set<String> names = new HashSet<>();
        for (Method m : RankedObjects.class.getDeclaredMethods()) {
            due(m.getName() + ": named once", names.add(m.getName()), true);
            due(m.getName() + ": at most seven parameters", m.getParameterCount() <= 7, true);
            due(m.getName() + ": answers no array", m.getReturnType().isArray(), false);
        }
    }

    private static void checkSource() throws IOException {
        String source = Files.readString(Path.of("src/main/java/RankedObjects.java"));
        String code = source.replaceAll("(?s)/\\*.*?\\*/", "").replaceAll("//.*", "");
        for (String word : FORBIDDEN) {
            boolean named = Character.isLetter(word.charAt(0));
            Pattern pattern = Pattern.compile(named ? "\\b" + word + "\\b" : word);
            due("'" + word + "' in the source", pattern.matcher(code).find(), false);
        }
        Matcher made = Pattern.compile("(?m)^.*\\bnew\\b.*$").matcher(code);
        while (made.find()) {
            String line = made.group().trim();
            due("made in a field: " + line, line.matches("private final int\\[\\] \\w+ = new int\\[[A-Z_]+\\];"), true);
        }
    }
}
