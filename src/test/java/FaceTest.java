import java.io.IOException;
import java.lang.reflect.Constructor;
import java.lang.reflect.Field;
import java.lang.reflect.Member;
import java.lang.reflect.Method;
import java.lang.reflect.Modifier;
import java.nio.file.Files;
import java.nio.file.Path;
import java.util.Arrays;
import java.util.Set;
import java.util.TreeSet;
import java.util.regex.Matcher;
import java.util.regex.Pattern;

/** The document's face, and of the rules of LANGUAGE.md those that can be read off the class or its text. */
public final class FaceTest {
    private static final Check CHECK = new Check("FaceTest");
    private static final String[] FACE = {
        "int feed(int)", "int valley()", "int shape(int)", "int field(int, int)", "int singer(int, int)",
        "int as(int, int)", "int chord(int, int)", "int hour()", "int send(int, int)", "int sound(int, int)",
        "int undo()", "int image(int)", "int restore(int)", "int sings(int)", "int ahead(int, int)", "int fills(int)",
        "int stands(int)", "int howls(int)", "int back(int)", "int wind(int, int, int)", "int decades(int, int, int)",
        "int sheet(int, int, int)", "int drop(int)", "long item(int, int, int, long)",
        "int copy(int, int, int, int, int)", "int log(int, int, int)", "int sounded(int, int, int, int, int)",
        "int kinds(int, int, int, int, int)", "int count(int)",
    };
    private static final String[] CONSTANTS = {
        "BAD=-1", "NOT=-2", "FULL=-3", "NONE=-4", "NULL=-11", "CAST=-12", "INDEX=-13", "SIZE=-14",
    };
    private static final String[] FORBIDDEN = {
        "throw", "throws", "try", "catch", "synchronized", "assert", "instanceof", "Exact", "->", "::", "@", "double",
        "float", "Object", "System.out", "System.err", "System.exit", "Random", "Thread", "hashCode", "toString", "\"",
    };

    public static void main(String[] args) throws Exception {
        Class<?> face = MissingNote.class;
        CHECK.holds("the class is public and final", face.getModifiers() == (Modifier.PUBLIC | Modifier.FINAL));
        members(face);
        inside(face);
        source(Path.of(args[0]));
        CHECK.end();
    }

    private static boolean isPrivate(Member member) {
        return Modifier.isPrivate(member.getModifiers());
    }

    private static void members(Class<?> face) throws IllegalAccessException {
        Set<String> methods = new TreeSet<>();
        Set<String> names = new TreeSet<>();
        for (Method method : face.getDeclaredMethods()) {
            if (!isPrivate(method)) {
                CHECK.holds(method + " is public, no more", method.getModifiers() == Modifier.PUBLIC);
                String types = Arrays.toString(Arrays.stream(method.getParameterTypes()).map(Class::getName).toArray());
                methods.add(method.getReturnType() + " " + method.getName() + types.replace('[', '(').replace(']', ')'));
                names.add(method.getName());
            }
        }
        CHECK.holds("the methods are " + methods, methods.equals(new TreeSet<>(Arrays.asList(FACE))));
        for (Method method : face.getDeclaredMethods()) {
            CHECK.holds(method + " bears a public name", !isPrivate(method) || !names.contains(method.getName()));
        }
        Set<String> constants = new TreeSet<>();
        for (Field field : face.getDeclaredFields()) {
            if (!isPrivate(field)) {
                CHECK.holds(field + " is a constant", field.getModifiers() == (Modifier.PUBLIC | Modifier.STATIC | Modifier.FINAL));
                constants.add(field.getName() + "=" + field.getInt(null));
            }
        }
        CHECK.holds("the constants are " + constants, constants.equals(new TreeSet<>(Arrays.asList(CONSTANTS))));
        Constructor<?>[] made = face.getDeclaredConstructors();
        CHECK.holds("one public constructor", made.length == 1 && made[0].getParameterCount() == 0
                && made[0].getModifiers() == Modifier.PUBLIC);
    }

    private static void inside(Class<?> face) {
        Class<?>[] classes = face.getDeclaredClasses();
        CHECK.holds("at most twelve classes", classes.length <= 11);
        for (Class<?> one : classes) {
            int modifiers = one.getModifiers();
            CHECK.holds(one + " is static", Modifier.isStatic(modifiers));
            CHECK.holds(one + " is not visible", !Modifier.isPublic(modifiers) && !Modifier.isProtected(modifiers));
            for (Method method : one.getDeclaredMethods()) {
                CHECK.holds(method + " takes too many", method.getParameterCount() <= 7);
            }
            fields(one);
        }
        fields(face);
    }

    private static void fields(Class<?> one) {
        int own = 0;
        for (Field field : one.getDeclaredFields()) {
            if (Modifier.isStatic(field.getModifiers())) {
                CHECK.holds(field + " is final", Modifier.isFinal(field.getModifiers()));
            } else {
                own++;
            }
        }
        CHECK.holds(one + " has at most twenty fields", own <= 20);
    }

    private static void source(Path file) throws IOException {
        String text = Files.readString(file);
        CHECK.holds("plain signs", text.chars().allMatch(c -> c == '\n' || c >= 32 && c < 127));
        String code = text.replaceAll("(?s)/\\*.*?\\*/", "").replaceAll("//[^\n]*", "");
        for (String word : FORBIDDEN) {
            String edge = Character.isLetter(word.charAt(0)) ? "\\b" : "";
            String pattern = word.equals("Exact") ? "Exact\\b" : edge + Pattern.quote(word) + edge;
            CHECK.holds("the code holds " + word, !Pattern.compile(pattern).matcher(code).find());
        }
        Matcher imports = Pattern.compile("import ([^;]*);").matcher(code);
        while (imports.find()) {
            CHECK.holds("an import: " + imports.group(1), imports.group(1).equals("java.util.Arrays"));
        }
        CHECK.holds("no package", !code.contains("package "));
        methodsAreShort(code);
    }

    /** A method begins with a line that ends in ") {" and ends with the brace that stands as far in. */
    private static void methodsAreShort(String code) {
        String[] lines = code.split("\n");
        for (int first = 0; first < lines.length; first++) {
            Matcher header = Pattern.compile("( {4}| {8})(?!if|for|while|switch)[a-zA-Z].*\\) \\{").matcher(lines[first]);
            if (header.matches()) {
                int last = first;
                while (last < lines.length - 1 && !lines[last].equals(header.group(1) + "}")) {
                    last++;
                }
                CHECK.holds("a method is long: " + lines[first], last - first < 60);
            }
        }
    }
}
