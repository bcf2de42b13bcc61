import java.lang.reflect.Constructor;
import java.lang.reflect.Field;
import java.lang.reflect.Member;
import java.lang.reflect.Method;
import java.lang.reflect.Modifier;
import java.util.Arrays;
import java.util.Set;
import java.util.TreeSet;

/** The public face is the document's, to the letter, and nothing but it can be seen from outside. */
public final class FaceTest {
    private static final Checks CHECKS = new Checks();

    public static void main(String[] args) throws IllegalAccessException {
        CHECKS.holds("the class is public and final",
                Modifier.isPublic(PathSuite.class.getModifiers()) && Modifier.isFinal(PathSuite.class.getModifiers()));
        CHECKS.holds("the class extends nothing",
                PathSuite.class.getSuperclass() == Object.class && PathSuite.class.getInterfaces().length == 0);
        constants();
        same("methods", methods(), Set.of(
                "int add(int, int, int)", "int remove(int)", "int change(int, int)", "int arcs()",
                "int least(int, int, int)", "boolean agree(int, int)", "int fewest(int, int)", "int on(int, int)",
                "int reached(int)", "int low(int)", "boolean calm()", "int meanTop(int)", "int meanBottom(int)",
                "int onLeastRing()", "int around(int)", "int widest()"));
        Constructor<?>[] constructors = PathSuite.class.getDeclaredConstructors();
        CHECKS.holds("one public constructor without parameters", constructors.length == 1
                && Modifier.isPublic(constructors[0].getModifiers()) && constructors[0].getParameterCount() == 0);
        CHECKS.end();
    }

    private static void constants() throws IllegalAccessException {
        Set<String> found = new TreeSet<>();
        for (Field field : PathSuite.class.getDeclaredFields()) {
            if (isSeen(field)) {
                found.add(Modifier.toString(field.getModifiers()) + " " + field.getType() + " " + field.getName()
                        + " " + (Modifier.isStatic(field.getModifiers()) ? field.get(null) : ""));
            }
        }
        same("constants", found, Set.of("public static final int BAD -1000", "public static final int FULL -2000",
                "public static final int NONE -3000", "public static final int LOW -4000"));
    }

    private static Set<String> methods() {
        Set<String> found = new TreeSet<>();
        for (Method method : PathSuite.class.getDeclaredMethods()) {
            if (isSeen(method)) {
                String parameters = Arrays.toString(method.getParameterTypes());
                found.add((Modifier.isStatic(method.getModifiers()) ? "static " : "") + method.getReturnType() + " "
                        + method.getName() + "(" + parameters.substring(1, parameters.length() - 1) + ")");
            }
        }
        return found;
    }

    private static boolean isSeen(Member member) {
        return !Modifier.isPrivate(member.getModifiers());
    }

    private static void same(String what, Set<String> got, Set<String> want) {
        CHECKS.holds(what + " are " + new TreeSet<>(want) + ", found " + got, got.equals(want));
    }
}
