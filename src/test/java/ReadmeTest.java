import java.io.IOException;
import java.io.UncheckedIOException;
import java.lang.reflect.Method;
import java.net.URL;
import java.net.URLClassLoader;
import java.nio.file.Files;
import java.nio.file.Path;
import java.util.TreeSet;
import java.util.regex.Matcher;
import java.util.regex.Pattern;
import java.util.stream.Stream;
import javax.tools.ToolProvider;

/** README.md says how to use the class: its examples compile, and answer what it says behind them. */
public final class ReadmeTest {
    private static final Checks CHECKS = new Checks();
    private static final Path README = Path.of("README.md");
    private static final Pattern BLOCK = Pattern.compile("```java\n(.*?)```", Pattern.DOTALL);
    private static final Pattern ANSWERED = Pattern.compile(
            "(?m)^(int \\w+ = )?(church\\.\\w+\\(.*?\\)); +// (-?\\d+)\\b.*$");

    public static void main(String[] args) {
        CHECKS.test("README.md: its examples answer what it says", ReadmeTest::examples);
        CHECKS.test("README.md: each call of the face is named", ReadmeTest::calls);
        CHECKS.close();
    }

    /** Called by what is made of the examples. */
    public static int due(String call, long got, long want) {
        CHECKS.due(call, got, want);
        return (int) got;
    }

    private static String readme() {
        try {
            return Files.readString(README);
        } catch (IOException thrown) {
            throw new UncheckedIOException(thrown);
        }
    }

    private static void examples() {
        StringBuilder code = new StringBuilder();
        Matcher block = BLOCK.matcher(readme());
        while (block.find()) {
            code.append(block.group(1));
        }
        Matcher answered = ANSWERED.matcher(code);
        long calls = Pattern.compile("(?m)^(int \\w+ = )?church\\.").matcher(code).results().count();
        CHECKS.due("calls that have an answer behind them", answered.results().count(), calls);
        String checked = answered.reset().replaceAll(found -> Matcher.quoteReplacement(
                (found.group(1) == null ? "" : found.group(1)) + "ReadmeTest.due(\"" + found.group(2) + "\", "
                + found.group(2) + ", " + found.group(3) + ");"));
        try {
            run("public final class Examples { public static void run() {\n" + checked + "} }\n");
        } catch (IOException | ReflectiveOperationException thrown) {
            CHECKS.fault("the examples don't run: " + thrown + ", " + thrown.getCause());
        }
    }

    private static void run(String source) throws IOException, ReflectiveOperationException {
        Path folder = Files.createTempDirectory("examples");
        try {
            Path file = Files.writeString(folder.resolve("Examples.java"), source);
            int exit = ToolProvider.getSystemJavaCompiler().run(null, null, null, "-cp",
                    System.getProperty("java.class.path"), "-d", folder.toString(), file.toString());
            CHECKS.due("javac of the examples", exit, 0);
            if (exit == 0) {
                try (URLClassLoader loader = new URLClassLoader(new URL[] {folder.toUri().toURL()})) {
                    Method examples = loader.loadClass("Examples").getMethod("run");
                    examples.invoke(null);
                }
            }
        } finally {
            delete(folder);
        }
    }

    private static void delete(Path folder) throws IOException {
        try (Stream<Path> files = Files.list(folder)) {
            for (Path file : files.toList()) {
                Files.delete(file);
            }
        }
        Files.delete(folder);
    }

    private static void calls() {
        TreeSet<String> missing = new TreeSet<>();
        for (Method m : WhichOneAllKnow.class.getMethods()) {
            if (m.getDeclaringClass() == WhichOneAllKnow.class && !readme().contains("`" + m.getName() + "`")) {
                missing.add(m.getName());
            }
        }
        if (!missing.isEmpty()) {
            CHECKS.fault("not named: " + missing);
        }
    }
}
