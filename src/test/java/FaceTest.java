import java.lang.reflect.Constructor;
import java.lang.reflect.Field;
import java.lang.reflect.Method;
import java.lang.reflect.Modifier;
import java.util.Set;
import java.util.TreeSet;

/** The public face: all of the document's members as the document writes them, and no others. */
public final class FaceTest {
    private static final Set<String> FACE = Set.of(
        "public static final int LineageWorlds.BAD_NODE",
        "public static final int LineageWorlds.BAD_NUMBER",
        "public static final int LineageWorlds.FULL",
        "public static final int LineageWorlds.NO_FACT",
        "public LineageWorlds()",
        "public int LineageWorlds.fact(int,int)",
        "public int LineageWorlds.likely(int,int)",
        "public int LineageWorlds.condition(int,int,int)",
        "public void LineageWorlds.ask()",
        "public int LineageWorlds.drop()",
        "public int LineageWorlds.share()",
        "public int LineageWorlds.all()",
        "public int LineageWorlds.shareWith(int)",
        "public boolean LineageWorlds.matters(int)",
        "public int LineageWorlds.fewest()",
        "public int LineageWorlds.reasons()");

    private static int wrong = 0;

    private static void check(boolean good, String what) {
        if (!good) {
            wrong++;
            System.out.println("not as due: " + what);
        }
    }

    private static Set<String> visibleMembers() {
        Set<String> seen = new TreeSet<>();
        for (Field f : LineageWorlds.class.getDeclaredFields()) {
            if (!Modifier.isPrivate(f.getModifiers())) seen.add(f.toGenericString());
        }
        for (Constructor<?> c : LineageWorlds.class.getDeclaredConstructors()) {
            if (!Modifier.isPrivate(c.getModifiers())) seen.add(c.toGenericString());
        }
        for (Method m : LineageWorlds.class.getDeclaredMethods()) {
            if (!Modifier.isPrivate(m.getModifiers())) seen.add(m.toGenericString());
        }
        return seen;
    }

    public static void main(String[] args) {
        Set<String> seen = visibleMembers();
        check(seen.equals(FACE), "the face: " + seen);
        check(LineageWorlds.class.getModifiers() == (Modifier.PUBLIC | Modifier.FINAL), "public final class");
        check(LineageWorlds.class.getPackageName().isEmpty(), "no package");
        System.out.println(wrong == 0 ? "the face is as due" : wrong + " things are not as due");
        if (wrong != 0) System.exit(1);
    }
}
