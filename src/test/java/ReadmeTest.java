import java.io.IOException;
import java.lang.invoke.MethodHandles;
import java.lang.reflect.Method;
import java.lang.reflect.Modifier;
import java.nio.charset.StandardCharsets;
import java.nio.file.Files;
import java.nio.file.Path;
import java.nio.file.Paths;
import java.util.List;
import java.util.regex.Matcher;
import java.util.regex.Pattern;
import javax.tools.ToolProvider;

/** What README.md shows of calls is compiled and run as it stands there; each answer must be the one behind the call. */
public final class ReadmeTest {
    private static final Pattern CALL = Pattern.compile("(.*\\)); +// (-?\\d+|true|false|Long\\.MIN_VALUE)(?::.*)?");
    private static final Pattern THROWS = Pattern.compile("(.*\\)); +// throws (\\w+)(?::.*)?");

    private final StringBuilder helpers = new StringBuilder();
    private final StringBuilder calls = new StringBuilder();

    private ReadmeTest() {
    }

    public static void main(String[] args) throws IOException, ReflectiveOperationException {
        ReadmeTest test = new ReadmeTest();
        Check.under("README.md");
        test.read(Files.readAllLines(Paths.get("README.md"), StandardCharsets.US_ASCII));
        test.showsTheFace();
        test.run();
        Check.end();
    }

    private void read(List<String> lines) {
        boolean isJava = false;
        boolean isHelper = false;
        for (String line : lines) {
            if (line.startsWith("```")) {
                isJava = line.equals("```java");
                isHelper = false;
            } else if (isJava) {
                isHelper |= line.startsWith("static ");
                if (isHelper) {
                    helpers.append(line).append('\n');
                } else {
                    calls.append(asTest(line));
                }
            }
        }
    }

    /** A call with its answer becomes a comparison; only what makes an object may stand without an answer. */
    private static String asTest(String line) {
        Matcher call = CALL.matcher(line);
        if (call.matches()) {
            return "Check.due(" + quoted(call.group(1)) + ", " + call.group(1) + ", " + call.group(2) + ");\n";
        }
        Matcher thrower = THROWS.matcher(line);
        if (thrower.matches()) {
            return "try { " + thrower.group(1) + "; Check.due(" + quoted(line) + ", 0, 1); } catch (" + thrower.group(2)
                + " e) { Check.due(" + quoted(line) + ", e.getClass() == " + thrower.group(2) + ".class, true); }\n";
        }
        Check.due("a line without an answer: " + line, line.matches("MoodAnchor \\w+ = new MoodAnchor\\(\\);"), true);
        return line + "\n";
    }

    private static String quoted(String words) {
        return "\"" + words.replace("\\", "\\\\").replace("\"", "\\\"") + "\"";
    }

    private void showsTheFace() {
        for (Method method : MoodAnchor.class.getDeclaredMethods()) {
            if (Modifier.isPublic(method.getModifiers())) {
                boolean isShown = calls.indexOf("x." + method.getName() + "(") >= 0;
                Check.due(method.getName() + " is shown", isShown, true);
            }
        }
    }

    private void run() throws IOException, ReflectiveOperationException {
        Path directory = Files.createTempDirectory("readme");
        Path source = directory.resolve("ReadmeCalls.java");
        Path compiled = directory.resolve("ReadmeCalls.class");
        String all = "import java.util.NoSuchElementException;\nfinal class ReadmeCalls {\n" + helpers
            + "static void calls() {\n" + calls + "}\n}\n";
        Files.write(source, all.getBytes(StandardCharsets.US_ASCII));
        int exit = ToolProvider.getSystemJavaCompiler().run(null, null, null, "-cp", System.getProperty("java.class.path"),
            "-d", directory.toString(), source.toString());
        Check.due("what it shows compiles", exit, 0);
        if (exit == 0) {
            callAll(compiled);
        }
        Files.deleteIfExists(compiled);
        Files.delete(source);
        Files.delete(directory);
    }

    /** By the tests' own loader: to another one Check would not be visible. */
    private static void callAll(Path compiled) throws IOException, ReflectiveOperationException {
        Class<?> shown = MethodHandles.lookup().defineClass(Files.readAllBytes(compiled));
        Method method = shown.getDeclaredMethod("calls");
        method.setAccessible(true);
        method.invoke(null);
    }
}
