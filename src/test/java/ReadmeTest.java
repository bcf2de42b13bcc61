import java.io.File;
import java.io.IOException;
import java.lang.reflect.Method;
import java.lang.reflect.Modifier;
import java.net.URL;
import java.net.URLClassLoader;
import java.nio.file.Files;
import java.nio.file.Path;
import java.util.ArrayList;
import java.util.Comparator;
import java.util.List;
import java.util.function.Supplier;
import java.util.regex.Matcher;
import java.util.regex.Pattern;
import java.util.stream.Stream;
import javax.tools.ToolProvider;

/** What README.md says of the calls: its example is compiled and run, and its table has each call once. */
public final class ReadmeTest {
    private static final Checks CHECKS = new Checks();
    private static final Pattern EXAMPLE = Pattern.compile("```java\n(.*?)```", Pattern.DOTALL);
    private static final Pattern ANSWERED = Pattern.compile("(?:int (\\w+) = )?(x\\.\\w+\\(.*?\\)); +// ([-\\w.]+\\b).*");

    public static void main(String[] args) throws IOException, ReflectiveOperationException {
        String readme = Files.readString(Path.of("README.md"));
        lookAtTable(readme);
        Matcher example = EXAMPLE.matcher(readme);
        CHECKS.holds("there is an example", example.find());
        lookAtExample(example.group(1).split("\n"));
        CHECKS.end();
    }

    private static void lookAtTable(String readme) {
        for (Method method : PathSuite.class.getDeclaredMethods()) {
            if (Modifier.isPublic(method.getModifiers())) {
                String parameters = "\\w+, ".repeat(method.getParameterCount()).replaceFirst(", $", "");
                Pattern row = Pattern.compile("^\\| `" + method.getName() + "\\(" + parameters + "\\)` \\| \\w",
                        Pattern.MULTILINE);
                CHECKS.due("rows of " + method.getName(), row.matcher(readme).results().count(), 1);
            }
        }
    }

    private static void lookAtExample(String[] lines) throws IOException, ReflectiveOperationException {
        List<String> calls = new ArrayList<>();
        StringBuilder body = new StringBuilder();
        for (String line : lines) {
            Matcher answered = ANSWERED.matcher(line);
            if (!answered.matches()) {
                CHECKS.holds("a line without an answer makes the object: " + line, line.equals("PathSuite x = new PathSuite();"));
                body.append(line).append('\n');
                continue;
            }
            String variable = answered.group(1);
            if (variable != null) {
                body.append(line).append('\n');
            }
            String got = variable == null ? answered.group(2) : variable;
            body.append("asSaid.add(").append(got).append(" == ").append(answered.group(3)).append(");\n");
            calls.add(line);
        }
        List<Boolean> asSaid = run(body.toString());
        CHECKS.due("answers of the example", asSaid.size(), calls.size());
        for (int i = 0; i < asSaid.size(); i++) {
            CHECKS.holds(calls.get(i), asSaid.get(i));
        }
    }

    private static List<Boolean> run(String body) throws IOException, ReflectiveOperationException {
        Path folder = Files.createTempDirectory("readme");
        try {
            Path file = folder.resolve("Example.java");
            Files.writeString(file, "import java.util.*;\n"
                    + "public final class Example implements java.util.function.Supplier<List<Boolean>> {\n"
                    + "public List<Boolean> get() {\nList<Boolean> asSaid = new ArrayList<>();\n"
                    + body + "return asSaid;\n}\n}\n");
            int code = ToolProvider.getSystemJavaCompiler().run(null, null, null, "-cp",
                    System.getProperty("java.class.path"), "-d", folder.toString(), file.toString());
            CHECKS.due("javac of the example", code, 0);
            return code == 0 ? answers(folder) : List.of();
        } finally {
            delete(folder);
        }
    }

    @SuppressWarnings("unchecked")
    private static List<Boolean> answers(Path folder) throws IOException, ReflectiveOperationException {
        URL[] classes = {folder.toUri().toURL()};
        try (URLClassLoader loader = new URLClassLoader(classes, ReadmeTest.class.getClassLoader())) {
            return ((Supplier<List<Boolean>>) loader.loadClass("Example").getConstructor().newInstance()).get();
        }
    }

    private static void delete(Path folder) throws IOException {
        try (Stream<Path> files = Files.walk(folder)) {
            files.sorted(Comparator.reverseOrder()).map(Path::toFile).forEach(File::delete);
        }
    }
}
