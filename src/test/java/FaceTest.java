import java.lang.reflect.Constructor;
import java.lang.reflect.Field;
import java.lang.reflect.Member;
import java.lang.reflect.Method;
import java.lang.reflect.Modifier;
import java.util.Arrays;
import java.util.Set;
import java.util.TreeSet;

/** The class shows the members of the document's public face, and no others. */
public final class FaceTest {
    private static int wrong = 0;

    public static void main(String[] args) {
        due("modifiers of the class", Modifier.toString(LineageEngine.class.getModifiers()), "public final");
        due("parent", LineageEngine.class.getSuperclass(), Object.class);
        due("interfaces", LineageEngine.class.getInterfaces().length, 0);
        due("nested classes", LineageEngine.class.getDeclaredClasses().length, 0);
        due("constants", shownFields(), Set.of("public static final int BAD", "public static final int FULL",
            "public static final int BIG"));
        due("constructors", shownConstructors(), Set.of("public ()"));
        due("methods", shownMethods(), Set.of(
            "public int row(int, int)",
            "public int derive(int, int, int, int)",
            "public int count(int)",
            "public int total(int)",
            "public int keyOf(int, int)",
            "public int valueOf(int, int)",
            "public int lookup(int, int)",
            "public boolean keep(int, boolean)",
            "public boolean lose(int)",
            "public int discard()",
            "public int drop()",
            "public boolean level(int)"));
        due("BAD", LineageEngine.BAD, -1);
        due("FULL", LineageEngine.FULL, -2);
        due("BIG", LineageEngine.BIG, -3);
        System.out.println(wrong == 0 ? "the face is as due" : wrong + " parts of the face are not as due");
        if (wrong != 0) {
            System.exit(1);
        }
    }

    private static void due(String what, Object got, Object want) {
        if (!got.equals(want)) {
            wrong++;
            System.out.println(what + ": is " + got + ", due is " + want);
        }
    }

    private static Set<String> shownFields() {
        Set<String> shown = new TreeSet<>();
        for (Field field : LineageEngine.class.getDeclaredFields()) {
            if (isShown(field)) {
                shown.add(modifiers(field) + field.getType() + " " + field.getName());
            }
        }
        return shown;
    }

    private static Set<String> shownConstructors() {
        Set<String> shown = new TreeSet<>();
        for (Constructor<?> constructor : LineageEngine.class.getDeclaredConstructors()) {
            if (isShown(constructor)) {
                shown.add(modifiers(constructor) + list(constructor.getParameterTypes()));
            }
        }
        return shown;
    }

    private static Set<String> shownMethods() {
        Set<String> shown = new TreeSet<>();
        for (Method method : LineageEngine.class.getDeclaredMethods()) {
            if (isShown(method)) {
                shown.add(modifiers(method) + method.getReturnType() + " " + method.getName()
                    + list(method.getParameterTypes()));
            }
        }
        return shown;
    }

    private static boolean isShown(Member member) {
        return !Modifier.isPrivate(member.getModifiers());
    }

    private static String modifiers(Member member) {
        return Modifier.toString(member.getModifiers()) + " ";
    }

    private static String list(Class<?>[] types) {
        return Arrays.toString(types).replace('[', '(').replace(']', ')');
    }
}
