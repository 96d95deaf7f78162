import java.io.IOException;
import java.lang.reflect.Method;
import java.lang.reflect.Modifier;
import java.net.URL;
import java.net.URLClassLoader;
import java.nio.file.DirectoryStream;
import java.nio.file.Files;
import java.nio.file.Path;
import java.util.regex.Matcher;
import java.util.regex.Pattern;
import java.util.stream.Stream;
import javax.tools.ToolProvider;

/** README.md says what is so: its examples answer as told, it names every call and every test. */
public final class ReadmeTest {
    private static final Path README = Path.of("README.md");
    private static final Path TESTS = Path.of("src/test/java");
    private static final Pattern EXAMPLE = Pattern.compile("(?s)```java\n(.*?)```");
    /** A call of the object with the answer that is told behind it. */
    private static final Pattern ANSWERED =
        Pattern.compile("(?m)^(.*?)(air\\.\\w+\\(.*\\));\\s*// (-?\\d+)(:.*)?$");

    public static void main(String[] args) throws Exception {
        String page = Files.readString(README);
        examplesAnswer(page);
        callsAreNamed(page);
        testsAreNamed(page);
        Due.end();
    }

    /** The examples as they stand, one behind the other, as the body of one method. */
    private static void examplesAnswer(String page) throws Exception {
        StringBuilder body = new StringBuilder();
        Matcher examples = EXAMPLE.matcher(page);
        while (examples.find()) {
            body.append(examples.group(1));
        }
        Matcher answered = ANSWERED.matcher(body);
        long told = answered.results().count();
        String checked = answered.replaceAll(line -> Matcher.quoteReplacement(line.group(1) + "ReadmeTest.is(\""
            + line.group(2).replace("\"", "\\\"") + "\", " + line.group(2) + ", " + line.group(3) + ");"));
        int before = Due.checks();
        run("public final class Example {\npublic static void example() {\n" + checked + "}\n}\n");
        Due.holds("README.md tells answers", told > 0);
        Due.is("checks of README.md's examples", Due.checks() - before, told + 2);
    }

    /** Called by the examples: public, since another loader has made their class. */
    public static int is(String call, long got, long want) {
        Due.is("README.md: " + call, got, want);
        return (int) got;
    }

    private static void run(String source) throws Exception {
        Path room = Files.createTempDirectory("readme");
        Path file = room.resolve("Example.java");
        try {
            Files.writeString(file, source);
            int failed = ToolProvider.getSystemJavaCompiler().run(null, null, null, "-d", room.toString(),
                "-cp", System.getProperty("java.class.path"), file.toString());
            Due.is("the examples of README.md compile", failed, 0);
            if (failed == 0) {
                try (URLClassLoader loader = new URLClassLoader(new URL[] {room.toUri().toURL()})) {
                    loader.loadClass("Example").getMethod("example").invoke(null);
                }
            }
        } finally {
            clear(room);
        }
    }

    private static void clear(Path room) throws IOException {
        try (DirectoryStream<Path> files = Files.newDirectoryStream(room)) {
            for (Path file : files) {
                Files.delete(file);
            }
        }
        Files.delete(room);
    }

    private static void callsAreNamed(String page) {
        for (Method method : ThinAir.class.getDeclaredMethods()) {
            if (Modifier.isPublic(method.getModifiers())) {
                Matcher named = Pattern.compile("`" + method.getName() + "\\(([^)]*)\\)`").matcher(firstCells(page));
                int numbers = !named.find() ? -1 : named.group(1).isEmpty() ? 0 : named.group(1).split(",").length;
                Due.is("README.md: numbers of " + method.getName() + "() (-1: it has no row)", numbers,
                    method.getParameterCount());
            }
        }
    }

    /** What the rows of all tables begin with. */
    private static String firstCells(String page) {
        StringBuilder cells = new StringBuilder();
        page.lines().filter(line -> line.startsWith("| `"))
            .forEach(line -> cells.append(line, 0, line.indexOf('|', 1)).append('\n'));
        return cells.toString();
    }

    private static void testsAreNamed(String page) throws IOException {
        try (Stream<Path> files = Files.list(TESTS)) {
            files.map(file -> file.getFileName().toString()).filter(name -> name.endsWith("Test.java"))
                .forEach(name -> Due.holds("README.md names " + name,
                    page.contains("| `" + name.replace(".java", "") + "` |")));
        }
        Matcher named = Pattern.compile("\\| `(\\w+Test)` \\|").matcher(page);
        while (named.find()) {
            Due.holds("there is " + named.group(1), Files.exists(TESTS.resolve(named.group(1) + ".java")));
        }
    }
}
