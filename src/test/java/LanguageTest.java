import java.io.IOException;
import java.lang.reflect.Array;
import java.lang.reflect.Field;
import java.lang.reflect.Modifier;
import java.nio.file.Files;
import java.nio.file.Path;
import java.util.ArrayList;
import java.util.List;

/** The rules of LANGUAGE.md: that the class keeps to them, and that Rules finds what breaks one. */
public final class LanguageTest {
    private static final Check CHECK = new Check("LanguageTest");
    private static final int SETS = 4096;

    public static void main(String[] args) throws Exception {
        for (String breach : Rules.breaches(Files.readString(Path.of(args[0])))) {
            CHECK.holds(breach, false);
        }
        keeps("int a = 1;");
        keeps("private static final int[] ROW = {1, 2}; private int of(int k) { return k >= 0 && k < 2 ? ROW[k] : 0; }");
        faceAndClasses();
        typesAndLibrary();
        statics();
        ruledOut();
        loops();
        sizes();
        made();
        room();
        CHECK.end();
    }

    private static List<String> breaches(String members) throws IOException {
        return Rules.breaches("public final class MissingNote {\n" + members + "\n}\n");
    }

    private static void keeps(String members) throws IOException {
        CHECK.holds("it keeps to the rules: " + members + ": " + breaches(members), breaches(members).isEmpty());
    }

    /** Just this rule is broken. */
    private static void breaks(int rule, String members) throws IOException {
        breaksWhole(rule, members, breaches(members));
    }

    private static void breaksWhole(int rule, String text, List<String> breaches) {
        List<String> others = new ArrayList<>(breaches);
        others.removeIf(breach -> breach.startsWith("rule " + rule + ": "));
        CHECK.holds("it breaks rule " + rule + ": " + text + ": " + breaches, !breaches.isEmpty() && others.isEmpty());
    }

    private static void faceAndClasses() throws IOException {
        breaks(1, "public int hour() { return hour(1); } private int hour(int n) { return n; }");
        breaks(1, "public int hour() { return 0; } private static final class Part { int hour() { return 1; } }");
        for (String text : new String[] {"package a; public final class MissingNote { }", "public class MissingNote { }",
                "public final class MissingNote { } class Other { }"}) {
            breaksWhole(1, text, Rules.breaches(text));
        }
        breaks(2, "private final class Part { }");
        breaks(2, "public static final class Part { }");
        breaks(2, "private void a() { class Part { } }");
        keeps("private static final class Part { }");
        keeps("private record Part(int a, int b) { }");
    }

    private static void typesAndLibrary() throws IOException {
        breaks(3, "private int[][][] rows;");
        breaks(3, "private Object one;");
        breaks(3, "private String[] texts;");
        keeps("private int[][] rows; private StringBuilder text; private MissingNote[] others;");
        breaks(4, "private long a() { return System.nanoTime(); }");
        breaks(4, "private int a(int k) { return Math.addExact(k, 1); }");
        breaks(4, "private double a() { return Math.random(); }");
        breaks(4, "private int a(int[] row) { return java.util.Arrays.hashCode(row); }");
        keeps("private int a(int[] row) { java.util.Arrays.fill(row, 1); return Integer.bitCount(Math.max(row.length, 2)); }");
        String text = "import java.util.Random;\npublic final class MissingNote { }";
        breaksWhole(4, text, Rules.breaches(text));
        String sign = "public final class MissingNote { } // " + (char) 233;
        breaksWhole(4, sign, Rules.breaches(sign));
    }

    private static void statics() throws IOException {
        breaks(5, "private static int count;");
        breaks(5, "private static final int[] ROW = new int[3];");
        breaks(5, "private static final short[] ROW = {1};");
        breaks(5, "private static final int[] ROW = {1}; private void a() { ROW[0] = 2; }");
        breaks(5, "private static final int[] ROW = {1}; private void a() { ROW[0] += 2; }");
        breaks(5, "private static final int[] ROW = {1}; private void a() { ROW[0]++; }");
        breaks(5, "private static final int[] ROW = {1}; private void a() { java.util.Arrays.fill(ROW, 2); }");
        breaks(5, "static { int a = 1; }");
    }

    private static void ruledOut() throws IOException {
        breaks(6, "private void a(int k) { assert k > 0; }");
        breaks(6, "private void a() { synchronized (this) { } }");
        breaks(6, "private synchronized void a() { }");
        breaks(6, "private void a(int k) { try { k++; } finally { k--; } }");
        breaks(6, "private boolean a(String s, String t) { return s == t; }");
        breaks(6, "private Part a(Part p) { return (Part) p; } private static class Part { }");
        breaks(6, "private void a(Part p) { throw null; } private static class Part { }");
        breaks(7, "private int a(int k) { int zero = 0; return zero == 0 ? k : k % 0; }");
        breaks(10, "private String a(String s) { return s + 1; }");
        keeps("private int a(long v) { return (byte) v + (int) v; }");
    }

    private static void loops() throws IOException {
        breaks(9, "private void a(int n) { while (n > 0) { n--; } }");
        breaks(9, "private void a(int n) { do { n--; } while (n > 0); }");
        breaks(9, "private void a(int n) { for (int k = 0; k < n; k++) { k = 0; } }");
        breaks(9, "private void a(int n) { for (int k = 0; k < n; k++) { n++; } }");
        breaks(9, "private int n; private void a() { for (int k = 0; k < this.n; k++) { this.n++; } }");
        breaks(9, "private void a(int n) { for (int k = 0; k < n; k--) { } }");
        breaks(9, "private void a(int n) { for (int k = 0; k != n; k++) { } }");
        breaks(9, "private void a(int n) { for (int k = 0; k < n || n > 5; k++) { } }");
        breaks(9, "private void a(int n) { for (int k = 0, j = 0; k < n; j++) { } }");
        breaks(9, "private void a(int n) { for (int k = 0; ; k++) { if (k > n) { break; } } }");
        keeps("private void a(int n) { for (int k = n; k >= 0 && n != 3; k--) { } }");
        keeps("private void a(int[] row) { for (int one : row) { } }");
        breaks(8, "private int a(int n) { return n > 0 ? b(n) : 0; } private int b(int n) { return a(n - 1); }");
        breaks(8, "private int a(int n) { return n > 0 ? a(n - 1) : 0; }");
    }

    private static void sizes() throws IOException {
        breaks(11, "private void a(int a, int b, int c, int d, int e, int f, int g, int h) { }");
        keeps("private void a(int a, int b, int c, int d, int e, int f, int g) { }");
        keeps("private void a() {" + "\n".repeat(59) + "}");
        breaks(11, "private void a() {" + "\n".repeat(60) + "}");
        keeps(classes(11));
        breaks(11, classes(12));
        keeps(fields(20));
        breaks(11, fields(21));
        keeps(calls(8));
        breaks(11, calls(9));
    }

    private static String classes(int many) {
        StringBuilder text = new StringBuilder();
        for (int k = 0; k < many; k++) {
            text.append("private static final class P").append(k).append(" { }\n");
        }
        return text.toString();
    }

    private static String fields(int many) {
        StringBuilder text = new StringBuilder();
        for (int k = 0; k < many; k++) {
            text.append("private int f").append(k).append(";\n");
        }
        return text.toString();
    }

    /** As many methods, of which each calls the next. */
    private static String calls(int many) {
        StringBuilder text = new StringBuilder();
        for (int k = 1; k < many; k++) {
            text.append("private int c").append(k).append("() { return c").append(k + 1).append("(); }\n");
        }
        return text.append("private int c").append(many).append("() { return 1; }\n").toString();
    }

    private static void made() throws IOException {
        String part = " private static final class Part { final int[] row; Part(int[] given) { row = given; } }";
        breaks(12, "private final int[] row = new int[2]; private final Part part = new Part(row);" + part);
        breaks(12, "private final Part part; private final int[] row = new int[2]; MissingNote() { part = new Part(this.row); }" + part);
        breaks(12, "private final Part part = new Part(this); private static final class Part { Part(MissingNote x) { } }");
        breaks(12, "private int[] a() { return new int[2]; }");
        breaks(12, "private Part a() { return new Part(); } private static final class Part { }");
        breaks(12, "private int n; { n = 1; }");
        keeps("private final Part part = new Part(3); private static final class Part { final int[] row; Part(int n) { row = new int[3]; } }");
    }

    /** What one object holds: calls make nothing, so this is all that a run makes. */
    private static void room() throws IllegalAccessException {
        List<Object> held = new ArrayList<>();
        long parts = weigh(new MissingNote(), held);
        CHECK.holds("an object holds " + held.size() + " objects and rows", held.size() < 100);
        CHECK.holds("an object holds " + parts + " fields and elements", parts > SETS && parts < 2 * SETS);
    }

    private static long weigh(Object one, List<Object> held) throws IllegalAccessException {
        if (one == null || held.stream().anyMatch(other -> other == one)) {
            return 0;
        }
        held.add(one);
        if (one.getClass().isArray()) {
            long parts = Array.getLength(one);
            for (int k = 0; !one.getClass().getComponentType().isPrimitive() && k < Array.getLength(one); k++) {
                parts += weigh(Array.get(one, k), held);
            }
            return parts;
        }
        long parts = 0;
        for (Field field : one.getClass().getDeclaredFields()) {
            if (!Modifier.isStatic(field.getModifiers())) {
                field.setAccessible(true);
                parts += 1 + (field.getType().isPrimitive() ? 0 : weigh(field.get(one), held));
            }
        }
        return parts;
    }
}
