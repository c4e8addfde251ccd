import java.io.IOException;
import java.lang.reflect.InvocationTargetException;
import java.lang.reflect.Method;
import java.lang.reflect.Modifier;
import java.net.URL;
import java.net.URLClassLoader;
import java.nio.file.Files;
import java.nio.file.Path;
import java.util.ArrayList;
import java.util.List;
import java.util.regex.Matcher;
import java.util.regex.Pattern;
import java.util.stream.Stream;
import javax.tools.JavaCompiler;
import javax.tools.ToolProvider;

/**
 * The examples in README.md compile, and their rows answer as the comments behind them say. They are made into
 * one class, each row in the line that it has in README.md, so that the compiler's complaints name that line.
 */
public final class ReadmeTest extends Checks {
    private static final Path README = Path.of("README.md");
    private static final String EXAMPLES = "ReadmeExamples";
    private static final Pattern TOLD = Pattern.compile("(.*);\\s*// (answers|throws) (.*?)(: .*)?");
    private static final Pattern DECLARED = Pattern.compile("\\w+ (\\w+) = .*");
    private static final Pattern CALL = Pattern.compile("(?:\\w+ \\w+ = )?\\w+\\.(\\w+)\\(.*");

    public static void main(String[] args) throws Exception {
        List<String> rows = Files.readAllLines(README);
        Path work = Files.createTempDirectory("readme");
        try {
            checkExamples(rows, work);
        } finally {
            remove(work);
        }
        checkAllIsShown(String.join("\n", rows));
        end();
    }

    private static void checkExamples(List<String> rows, Path work) throws Exception {
        Path file = work.resolve(EXAMPLES + ".java");
        Files.write(file, program(rows));
        JavaCompiler compiler = ToolProvider.getSystemJavaCompiler();
        int code = compiler.run(null, System.out, System.out, "-d", work.toString(), "-cp",
                System.getProperty("java.class.path"), file.toString());
        compare("the examples are compiled, exit code", "0", "" + code);
        if (code == 0) {
            runExamples(work);
        }
    }

    private static List<String> program(List<String> rows) {
        List<String> program = new ArrayList<>();
        boolean inside = false;
        int examples = 0;
        for (String row : rows) {
            int line = program.size() + 1;
            if (row.equals("```java")) {
                inside = true;
                examples++;
                program.add("public static void example" + examples + "() {");
            } else if (inside && row.equals("```")) {
                inside = false;
                program.add("}");
            } else {
                program.add(inside ? checked(row, line) : "");
            }
        }
        program.set(0, "public final class " + EXAMPLES + " {" + program.get(0));
        program.add("}");
        return program;
    }

    /** A row of an example, with a check of what it tells. */
    private static String checked(String row, int line) {
        Matcher told = TOLD.matcher(row);
        if (!told.matches()) {
            compare("README.md:" + line + " needs to tell an answer: " + row, "false", "" + hasAnswer(row));
            return row;
        }
        String code = told.group(1).trim();
        String due = told.group(3);
        if (told.group(2).equals("throws")) {
            return "ReadmeTest.refused(" + line + ", " + due + ".class, () -> " + code + ");";
        }
        Matcher declared = DECLARED.matcher(code);
        if (declared.matches()) {
            return code + "; ReadmeTest.answered(" + line + ", " + due + ", " + declared.group(1) + ");";
        }
        return "ReadmeTest.answered(" + line + ", " + due + ", " + code + ");";
    }

    /** Whether a row is one call of the class that answers something. */
    private static boolean hasAnswer(String row) {
        Matcher call = CALL.matcher(row.trim());
        if (call.matches()) {
            for (Method method : MembraneRounds.class.getDeclaredMethods()) {
                if (method.getName().equals(call.group(1))) {
                    return method.getReturnType() != void.class;
                }
            }
        }
        return false;
    }

    private static void runExamples(Path work) throws Exception {
        int run = 0;
        try (URLClassLoader loader = new URLClassLoader(new URL[] {work.toUri().toURL()})) {
            for (Method example : loader.loadClass(EXAMPLES).getDeclaredMethods()) {
                if (example.getName().matches("example\\d+")) {
                    run++;
                    compare(example.getName(), "throws nothing", told(thrownBy(() -> call(example))));
                }
            }
        }
        compare("there are examples", "true", "" + (run > 0));
    }

    private static void call(Method example) {
        try {
            example.invoke(null);
        } catch (InvocationTargetException e) {
            e.getCause().printStackTrace(System.out);
            throw new RuntimeException(e.getCause());
        } catch (IllegalAccessException e) {
            throw new RuntimeException(e);
        }
    }

    public static void answered(int line, long want, long got) {
        compare("README.md:" + line, "" + want, "" + got);
    }

    public static void answered(int line, boolean want, boolean got) {
        compare("README.md:" + line, "" + want, "" + got);
    }

    public static void answered(int line, String want, String got) {
        compare("README.md:" + line, want, got);
    }

    public static void refused(int line, Class<?> want, Runnable made) {
        dueThrow("README.md:" + line, want, made);
    }

    /** README.md has an example of each call of the face, and names each test. */
    private static void checkAllIsShown(String text) throws IOException {
        for (Method method : MembraneRounds.class.getDeclaredMethods()) {
            if (Modifier.isPublic(method.getModifiers())) {
                shows(text, "x." + method.getName() + "(");
            }
        }
        shows(text, "MembraneRounds.NONE");
        shows(text, "MembraneRounds.LIMIT");
        shows(text, "\n.ci/run\n");
        try (Stream<Path> files = Files.list(Path.of("src/test/java"))) {
            for (Path file : files.toList()) {
                shows(text, "`" + file.getFileName().toString().replace(".java", "") + "`");
            }
        }
    }

    private static void shows(String text, String part) {
        compare("README.md has " + part, "true", "" + text.contains(part));
    }

    private static void remove(Path work) throws IOException {
        try (Stream<Path> files = Files.list(work)) {
            for (Path file : files.toList()) {
                Files.delete(file);
            }
        }
        Files.delete(work);
    }
}
