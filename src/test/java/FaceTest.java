import java.io.IOException;
import java.lang.reflect.Constructor;
import java.lang.reflect.Field;
import java.lang.reflect.Member;
import java.lang.reflect.Method;
import java.lang.reflect.Modifier;
import java.nio.file.Files;
import java.nio.file.Path;
import java.util.Arrays;
import java.util.Set;
import java.util.TreeSet;
import java.util.stream.Collectors;

/** The document's face: all of it, as it stands there, and nothing else that can be seen from outside. */
public final class FaceTest {
    private static final Check CHECK = new Check("FaceTest");
    private static final String CLASS = "public final class MissingNote {";
    private static final String CONSTANTS = "public static final int BAD = -1, NOT = -2, FULL = -3, NONE = -4, NULL = -11, CAST = -12, "
            + "INDEX = -13, SIZE = -14;";
    private static final String MADE = "public MissingNote();";
    static final String[] CALLS = {
        "public int feed(int letter);", "public int valley();", "public int shape(int shape);", "public int field(int field, int what);",
        "public int singer(int singer, int what);", "public int as(int singer, int kind);", "public int chord(int set, int what);",
        "public int hour();", "public int send(int singer, int field);", "public int sound(int field, int pitch);", "public int undo();",
        "public int image(int k);", "public int restore(int k);", "public int sings(int singer);", "public int ahead(int n, int what);",
        "public int fills(int field);", "public int stands(int singer);", "public int howls(int field);", "public int back(int field);",
        "public int wind(int field, int q, int what);", "public int decades(int n, int seed, int what);",
        "public int sheet(int sheet, int lane, int n);", "public int drop(int sheet);",
        "public long item(int sheet, int lane, int i, long v);", "public int copy(int from, int i, int to, int j, int n);",
        "public int log(int sheet, int lane, int i);", "public int sounded(int sheet, int lane, int i, int n, int what);",
        "public int kinds(int singer, int sheet, int lane, int i, int n);", "public int count(int what);",
    };

    public static void main(String[] args) throws Exception {
        Class<?> face = MissingNote.class;
        CHECK.holds("the class is public and final", face.getModifiers() == (Modifier.PUBLIC | Modifier.FINAL));
        CHECK.holds("it is nothing else's", face.getSuperclass() == Object.class && face.getInterfaces().length == 0);
        methods(face);
        constants(face);
        Constructor<?>[] made = face.getDeclaredConstructors();
        CHECK.holds("one public constructor", made.length == 1 && made[0].getParameterCount() == 0
                && made[0].getModifiers() == Modifier.PUBLIC);
        text(Files.readString(Path.of(args[0])));
        document(args);
        CHECK.end();
    }

    private static boolean isPrivate(Member member) {
        return Modifier.isPrivate(member.getModifiers());
    }

    private static void methods(Class<?> face) {
        Set<String> seen = new TreeSet<>();
        for (Method method : face.getDeclaredMethods()) {
            if (!isPrivate(method)) {
                CHECK.holds(method + " is public, no more", method.getModifiers() == Modifier.PUBLIC);
                String types = Arrays.stream(method.getParameterTypes()).map(Class::getName).collect(Collectors.joining(", "));
                seen.add("public " + method.getReturnType() + " " + method.getName() + "(" + types + ");");
            }
        }
        Set<String> due = new TreeSet<>();
        for (String call : CALLS) {
            due.add(call.replaceAll("(int|long) [a-z]+([,)])", "$1$2"));
        }
        CHECK.holds("the methods are " + seen, seen.equals(due));
    }

    private static void constants(Class<?> face) throws IllegalAccessException {
        Set<String> seen = new TreeSet<>();
        for (Field field : face.getDeclaredFields()) {
            if (!isPrivate(field)) {
                CHECK.holds(field + " is a constant", field.getModifiers() == (Modifier.PUBLIC | Modifier.STATIC | Modifier.FINAL)
                        && field.getType() == int.class);
                seen.add(field.getName() + " = " + field.getInt(null));
            }
        }
        String due = CONSTANTS.replaceAll("public static final int |;", "");
        CHECK.holds("the constants are " + seen, seen.equals(new TreeSet<>(Arrays.asList(due.split(", ")))));
    }

    /** What is given bears the document's names, too. */
    private static void text(String text) {
        CHECK.holds(CLASS, text.contains("\n" + CLASS + "\n"));
        for (String call : CALLS) {
            CHECK.holds("the text has " + call, text.contains("    " + call.replace(";", " {\n")));
        }
    }

    /** Says what of the face is no longer in the document as it is here, so that the class can be looked at. */
    private static void document(String[] args) throws IOException {
        if (args.length > 1 && Files.exists(Path.of(args[1]))) {
            String document = Files.readString(Path.of(args[1]));
            StringBuilder face = new StringBuilder(CLASS + "\n    " + CONSTANTS + "\n    " + MADE + "\n");
            for (String call : CALLS) {
                face.append("    ").append(call).append('\n');
            }
            if (!document.contains(face.append("}\n").toString())) {
                System.out.println("look at this test, the document no longer has this face");
            }
        }
    }
}
