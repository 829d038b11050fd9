import java.io.IOException;
import java.lang.reflect.Modifier;
import java.net.URL;
import java.net.URLClassLoader;
import java.nio.file.Files;
import java.nio.file.Path;
import java.util.ArrayList;
import java.util.Arrays;
import java.util.List;
import java.util.Set;
import java.util.TreeSet;
import java.util.regex.Matcher;
import java.util.regex.Pattern;
import java.util.stream.Stream;
import javax.tools.ToolProvider;

/** That README.md tells what is so: its examples, each call of the face, each number below 0, each test. */
public final class ReadmeTest {
    private static final Check CHECK = new Check("ReadmeTest");
    private static final Script S = new Script("ReadmeTest, runs");

    public static void main(String[] args) throws Exception {
        Path readme = Path.of(args[2]);
        String text = Files.readString(readme);
        for (String block : blocks(text, "java")) {
            example(block);
        }
        S.sentence(0, "as README.md tells");
        for (String block : blocks(text, "text")) {
            run(block);
        }
        calls(text);
        numbers(text);
        tests(text, readme.resolveSibling("src/test/java"));
        CHECK.end();
        S.end(new String[0]);
    }

    private static List<String> blocks(String text, String kind) {
        List<String> blocks = new ArrayList<>();
        Matcher block = Pattern.compile("(?s)\n```" + kind + "\n(.*?)\n```\n").matcher(text);
        while (block.find()) {
            blocks.add(block.group(1));
        }
        CHECK.holds("there is an example: " + kind, !blocks.isEmpty());
        return blocks;
    }

    /** Compiles an example as it stands, and looks at each number that is told behind a line. */
    private static void example(String block) throws Exception {
        StringBuilder code = new StringBuilder("public final class Example {\n    public static String run() {\n"
                + "        StringBuilder seen = new StringBuilder();\n");
        StringBuilder due = new StringBuilder();
        for (String line : block.split("\n")) {
            code.append(line).append('\n');
            Matcher told = Pattern.compile("int ([a-z]+) = .*; +// (-?\\d+): .*").matcher(line);
            if (told.matches()) {
                code.append("seen.append(").append(told.group(1)).append(").append(' ');\n");
                due.append(told.group(2)).append(' ');
            }
        }
        code.append("        return seen.toString();\n    }\n}\n");
        String seen = compiled(code.toString());
        CHECK.holds("the example answers " + seen + ", told is " + due, !seen.isEmpty() && seen.equals(due.toString()));
    }

    private static String compiled(String code) throws Exception {
        Path folder = Files.createTempDirectory("readme");
        try {
            Path file = folder.resolve("Example.java");
            Files.writeString(file, code);
            int answer = ToolProvider.getSystemJavaCompiler().run(null, null, null, "-d", folder.toString(), "-cp",
                    System.getProperty("java.class.path"), file.toString());
            CHECK.holds("the example compiles", answer == 0);
            if (answer != 0) {
                return "";
            }
            try (URLClassLoader loader = new URLClassLoader(new URL[] {folder.toUri().toURL()})) {
                return (String) loader.loadClass("Example").getMethod("run").invoke(null);
            }
        } finally {
            try (Stream<Path> files = Files.list(folder)) {
                for (Path file : files.toList()) {
                    Files.delete(file);
                }
            }
            Files.delete(folder);
        }
    }

    /** What stands behind two blanks or more is for the reader. */
    private static void run(String block) {
        String[] lines = block.split("\n");
        for (int k = 0; k < lines.length; k++) {
            lines[k] = lines[k].split(" {2,}")[0];
        }
        S.run(lines);
    }

    /** Each call has one row, with the names of what it is given. */
    private static void calls(String text) {
        List<String> rows = firsts(text, "\\| `([a-z]+\\([a-z, ]*\\))` \\| .*");
        List<String> due = new ArrayList<>();
        for (String call : FaceTest.CALLS) {
            due.add(call.replaceAll("^public [a-z]+ |(?<=[( ])(int|long) |;", ""));
        }
        CHECK.holds("the rows of the calls are " + rows + ", due is " + due, rows.equals(due));
    }

    private static void numbers(String text) throws IllegalAccessException {
        List<String> rows = firsts(text, "\\| (`[A-Z]+` \\| -\\d+) \\| .*");
        List<String> due = new ArrayList<>();
        for (java.lang.reflect.Field field : MissingNote.class.getDeclaredFields()) {
            if (Modifier.isPublic(field.getModifiers())) {
                due.add("`" + field.getName() + "` | " + field.getInt(null));
            }
        }
        CHECK.holds("the rows of the numbers are " + rows + ", due is " + due, rows.equals(due));
    }

    private static void tests(String text, Path folder) throws IOException {
        Set<String> named = new TreeSet<>(firsts(text, "\\| `([A-Za-z]+Test)` \\| .*"));
        Set<String> due = new TreeSet<>();
        try (Stream<Path> files = Files.list(folder)) {
            files.map(file -> file.getFileName().toString()).filter(name -> name.endsWith("Test.java"))
                    .forEach(name -> due.add(name.replace(".java", "")));
        }
        CHECK.holds("the tests are " + named + ", due is " + due, named.equals(due));
    }

    private static List<String> firsts(String text, String row) {
        List<String> found = new ArrayList<>();
        Pattern pattern = Pattern.compile(row);
        Arrays.stream(text.split("\n")).map(pattern::matcher).filter(Matcher::matches).forEach(match -> found.add(match.group(1)));
        return found;
    }
}
