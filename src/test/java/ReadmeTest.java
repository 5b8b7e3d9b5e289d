import java.io.IOException;
import java.lang.reflect.Field;
import java.lang.reflect.Method;
import java.lang.reflect.Modifier;
import java.net.URL;
import java.net.URLClassLoader;
import java.nio.file.DirectoryStream;
import java.nio.file.Files;
import java.nio.file.Path;
import java.util.ArrayList;
import java.util.List;
import java.util.regex.Matcher;
import java.util.regex.Pattern;
import javax.tools.ToolProvider;

/**
 * README.md says how to use the class and how to run its tests: the answers that
 * its example tells are those that the class gives, and no call or test is left out.
 */
public final class ReadmeTest {
    private static final Path README = Path.of("README.md");
    private static final Path TESTS = Path.of("src/test/java");
    private static final Pattern ANSWERING =
        Pattern.compile("(w\\.\\w+\\(.*\\));\\s*// answers (-?\\w+)(:.*)?");
    private static final Pattern SILENT =
        Pattern.compile("(LineageWorlds w = new LineageWorlds\\(\\);|w\\.ask\\(\\);)(\\s*//.*)?");

    private static int wrong = 0;

    private static void check(boolean good, String what) {
        if (!good) {
            wrong++;
            System.out.println("README.md: " + what);
        }
    }

    private static List<String> exampleLines(String readme) {
        List<String> lines = new ArrayList<>();
        boolean inside = false;
        for (String line : readme.split("\n")) {
            if (line.startsWith("```")) {
                inside = line.equals("```java");
            } else if (inside) {
                lines.add(line);
            }
        }
        return lines;
    }

    /** The example as a class whose 'wrong' answers the lines that tell a wrong answer. */
    private static String program(List<String> lines) {
        StringBuilder code = new StringBuilder();
        for (int i = 0; i < lines.size(); i++) {
            Matcher answering = ANSWERING.matcher(lines.get(i));
            if (answering.matches()) {
                String told = answering.group(2);
                String due = Character.isUpperCase(told.charAt(0)) ? "LineageWorlds." + told : told;
                code.append("if (" + answering.group(1) + " != " + due + ") wrong.add(" + i + ");\n");
            } else {
                check(SILENT.matcher(lines.get(i)).matches(), "not told what this answers: " + lines.get(i));
                code.append(lines.get(i) + "\n");
            }
        }
        return "public class Example {\n"
            + "public static java.util.List<Integer> wrong() {\n"
            + "java.util.List<Integer> wrong = new java.util.ArrayList<>();\n"
            + code + "return wrong;\n}\n}\n";
    }

    private static void checkExample(List<String> lines) throws IOException, ReflectiveOperationException {
        Path folder = Files.createTempDirectory("readme");
        Path source = folder.resolve("Example.java");
        Path compiled = folder.resolve("Example.class");
        try {
            Files.writeString(source, program(lines));
            int code = ToolProvider.getSystemJavaCompiler().run(null, null, null,
                "-cp", System.getProperty("java.class.path"), "-d", folder.toString(), source.toString());
            check(code == 0, "the example does not compile");
            if (code == 0) {
                runExample(folder, lines);
            }
        } finally {
            Files.deleteIfExists(compiled);
            Files.deleteIfExists(source);
            Files.deleteIfExists(folder);
        }
    }

    private static void runExample(Path folder, List<String> lines)
            throws IOException, ReflectiveOperationException {
        try (URLClassLoader loader = new URLClassLoader(new URL[] {folder.toUri().toURL()})) {
            List<?> lost = (List<?>) loader.loadClass("Example").getMethod("wrong").invoke(null);
            for (Object line : lost) {
                check(false, "the class does not answer so: " + lines.get((Integer) line));
            }
        }
    }

    /** Every call stands in the example and has its row in the table of calls. */
    private static void checkNames(String readme, List<String> lines) {
        String example = String.join("\n", lines);
        for (Method m : LineageWorlds.class.getDeclaredMethods()) {
            if (Modifier.isPublic(m.getModifiers())) {
                check(example.contains("w." + m.getName() + "("), "the example has no " + m.getName());
                check(readme.contains("\n| `" + m.getName() + "("), "the table has no " + m.getName());
            }
        }
        for (Field f : LineageWorlds.class.getDeclaredFields()) {
            if (Modifier.isPublic(f.getModifiers())) {
                check(readme.contains("`" + f.getName() + "`"), "does not name " + f.getName());
            }
        }
    }

    private static void checkTests(String readme) throws IOException {
        check(readme.contains("\n    .ci/run\n"), "does not say how to run the tests");
        check(Files.isExecutable(Path.of(".ci/run")), ".ci/run cannot be run as it says");
        try (DirectoryStream<Path> tests = Files.newDirectoryStream(TESTS, "*.java")) {
            for (Path test : tests) {
                String name = test.getFileName().toString().replace(".java", "");
                check(readme.contains("\n- `" + name + "`: "), "does not name the test " + name);
            }
        }
    }

    public static void main(String[] args) throws IOException, ReflectiveOperationException {
        String readme = Files.readString(README);
        List<String> lines = exampleLines(readme);
        checkExample(lines);
        checkNames(readme, lines);
        checkTests(readme);
        System.out.println(wrong == 0 ? "README.md is true" : wrong + " things in README.md are not so");
        if (wrong != 0) System.exit(1);
    }
}
