import java.io.IOException;
import java.lang.reflect.Constructor;
import java.lang.reflect.Field;
import java.lang.reflect.Method;
import java.lang.reflect.Modifier;
import java.nio.file.Files;
import java.nio.file.Path;
import java.util.Set;
import java.util.TreeSet;
import java.util.regex.Matcher;
import java.util.regex.Pattern;

/** The public face, and those rules of LANGUAGE.md that can be seen without reading the code. */
public final class FaceTest {
    private static final Set<String> FACE = Set.of(
        "public static final int LineageWorlds.BAD_NODE",
        "public static final int LineageWorlds.BAD_NUMBER",
        "public static final int LineageWorlds.FULL",
        "public static final int LineageWorlds.NO_FACT",
        "public LineageWorlds()",
        "public int LineageWorlds.fact(int,int)",
        "public int LineageWorlds.likely(int,int)",
        "public int LineageWorlds.condition(int,int,int)",
        "public void LineageWorlds.ask()",
        "public int LineageWorlds.drop()",
        "public int LineageWorlds.share()",
        "public int LineageWorlds.all()",
        "public int LineageWorlds.shareWith(int)",
        "public boolean LineageWorlds.matters(int)",
        "public int LineageWorlds.fewest()",
        "public int LineageWorlds.reasons()");

    private static final String FORBIDDEN =
        "\\b(import|package|float|double|String|Math|Integer|System|Arrays|null|throw|throws|try|catch|finally"
        + "|synchronized|assert|instanceof|enum|record|interface|Object|this\\.getClass)\\b|->|::";

    private static int wrong = 0;

    private static void check(boolean good, String what) {
        if (!good) {
            wrong++;
            System.out.println("not as due: " + what);
        }
    }

    private static void members() {
        Set<String> seen = new TreeSet<>();
        Set<String> publicNames = new TreeSet<>();
        Set<String> privateNames = new TreeSet<>();
        for (Field f : LineageWorlds.class.getDeclaredFields()) {
            if (!Modifier.isPrivate(f.getModifiers())) seen.add(f.toGenericString());
            Class<?> type = f.getType();
            Class<?> part = type.isArray() ? type.getComponentType() : type;
            check(part.isPrimitive() && part != float.class && part != double.class, "type of field " + f);
            if (Modifier.isStatic(f.getModifiers())) {
                check(Modifier.isFinal(f.getModifiers()) && (type == int.class || type == long.class), "static field " + f);
            }
        }
        for (Constructor<?> c : LineageWorlds.class.getDeclaredConstructors()) {
            if (!Modifier.isPrivate(c.getModifiers())) seen.add(c.toGenericString());
        }
        for (Method m : LineageWorlds.class.getDeclaredMethods()) {
            boolean hidden = Modifier.isPrivate(m.getModifiers());
            (hidden ? privateNames : publicNames).add(m.getName());
            if (!hidden) seen.add(m.toGenericString());
            check(m.getParameterCount() <= 7, "parameters of " + m);
            check(!m.getReturnType().isArray(), "answer of " + m);
        }
        privateNames.retainAll(publicNames);
        check(privateNames.isEmpty(), "private methods with a public name: " + privateNames);
        check(seen.equals(FACE), "the face: " + seen);
        check(LineageWorlds.class.getModifiers() == (Modifier.PUBLIC | Modifier.FINAL), "public final class");
        check(LineageWorlds.class.getDeclaredClasses().length == 0, "no nested class");
    }

    private static void words() throws IOException {
        String text = Files.readString(Path.of("src/main/java/LineageWorlds.java"));
        String code = text.replaceAll("(?s)/\\*.*?\\*/", " ").replaceAll("//[^\n]*", " ");
        Matcher m = Pattern.compile(FORBIDDEN).matcher(code);
        while (m.find()) {
            check(false, "word '" + m.group() + "' in the program");
        }
        for (String line : code.split("\n")) {
            if (line.contains("new ")) check(line.matches("    private final \\w+\\[\\] \\w+ = new \\w+\\[\\w+\\];"), "array made in: " + line);
        }
    }

    public static void main(String[] args) throws IOException {
        members();
        words();
        System.out.println(wrong == 0 ? "the face is as due" : wrong + " things are not as due");
        if (wrong != 0) System.exit(1);
    }
}
