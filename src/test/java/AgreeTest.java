import java.io.File;
import java.io.IOException;
import java.lang.reflect.Method;
import java.net.URL;
import java.net.URLClassLoader;
import java.nio.file.Files;
import java.nio.file.Path;
import java.util.Comparator;
import java.util.List;
import java.util.stream.Stream;
import javax.tools.ToolProvider;

/**
 * Promise 7 where two engines differ. No two do, so copies of the class are made in which one engine finds the empty
 * walks only: agree must see that, at each pair of points. The argument is the path of the class.
 */
public final class AgreeTest extends Cases {
    private static final List<String> ENGINES = List.of("fillByRounds(out);", "fillByMiddlePoints(out);",
            "fillBySquaring(out);", "fillByQueue(out);", "fillBySets(out);");
    private static final String SPOILED = "startEmpty(out);";

    private final Class<?> copy;
    private Object object;

    private AgreeTest(Class<?> copy) {
        this.copy = copy;
    }

    public static void main(String[] args) throws IOException, ReflectiveOperationException {
        String source = Files.readString(Path.of(args[0]));
        Path folder = Files.createTempDirectory("agree");
        try {
            for (int engine = 0; engine < WALK_ENGINES; engine++) {
                lookAt(source, engine, folder.resolve("engine" + engine));
            }
        } finally {
            delete(folder);
        }
        end();
    }

    private static void lookAt(String source, int spoiled, Path folder)
            throws IOException, ReflectiveOperationException {
        String called = ENGINES.get(spoiled);
        String copied = source.replace(called, SPOILED);
        Files.createDirectories(folder);
        Path file = folder.resolve("PathSuite.java");
        Files.writeString(file, copied);
        int code = ToolProvider.getSystemJavaCompiler().run(null, null, null, "-d", folder.toString(), file.toString());
        test("engine " + spoiled + " can be spoiled", () -> {
            due("calls of " + called, (source.length() - source.replace(called, "").length()) / called.length(), 1);
            due("javac", code, 0);
        });
        URL[] classes = {folder.toUri().toURL()};
        try (URLClassLoader loader = new URLClassLoader(classes, ClassLoader.getPlatformClassLoader())) {
            AgreeTest one = new AgreeTest(loader.loadClass("PathSuite"));
            test("Promise 7: false where engine " + spoiled + " finds something else", () -> one.differs(spoiled));
            test("Promise 7: true where engine " + spoiled + " finds the same all the same", () -> one.isTheSame());
        }
    }

    private static void delete(Path folder) throws IOException {
        try (Stream<Path> files = Files.walk(folder)) {
            files.sorted(Comparator.reverseOrder()).map(Path::toFile).forEach(File::delete);
        }
    }

    // A loop below 0 makes its own cell differ, any other arc the cell of its two points, and no cell beside.
    private void differs(int spoiled) {
        for (int s = 0; s < POINTS; s++) {
            for (int t = 0; t < POINTS; t++) {
                renew();
                call("add", s, t, -1);
                for (int engine = 0; engine < WALK_ENGINES; engine++) {
                    boolean same = engine == spoiled;
                    due("agree(" + engine + ", " + spoiled + ")", call("agree", engine, spoiled), same ? 1 : 0);
                    due("agree(" + spoiled + ", " + engine + ")", call("agree", spoiled, engine), same ? 1 : 0);
                    int other = (spoiled + 1) % WALK_ENGINES;
                    due("agree(" + engine + ", " + other + ")", call("agree", engine, other), same ? 0 : 1);
                }
            }
        }
    }

    private void isTheSame() {
        renew();
        call("add", 3, 3, 20);
        for (int engine = 0; engine < WALK_ENGINES; engine++) {
            for (int other = 0; other < WALK_ENGINES; other++) {
                due("agree(" + engine + ", " + other + ")", call("agree", engine, other), 1);
            }
        }
    }

    private void renew() {
        try {
            object = copy.getConstructor().newInstance();
        } catch (ReflectiveOperationException cause) {
            throw new IllegalStateException(cause);
        }
    }

    private int call(String name, Object... arguments) {
        for (Method method : copy.getMethods()) {
            if (method.getName().equals(name)) {
                return number(method, arguments);
            }
        }
        throw new IllegalStateException("no method " + name);
    }

    private int number(Method method, Object... arguments) {
        try {
            Object answer = method.invoke(object, arguments);
            return answer instanceof Boolean so ? so ? 1 : 0 : (Integer) answer;
        } catch (ReflectiveOperationException cause) {
            throw new IllegalStateException(cause);
        }
    }
}
