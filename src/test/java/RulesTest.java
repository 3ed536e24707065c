import java.io.IOException;
import java.nio.charset.StandardCharsets;
import java.nio.file.Files;
import java.nio.file.Path;
import java.nio.file.Paths;
import java.util.List;
import java.util.regex.Matcher;
import java.util.regex.Pattern;

/** What of LANGUAGE.md can be seen in the source by plain means; its path is the first argument. */
public final class RulesTest {
    private static final String[] REFUSED = {"->", "::", "\\btry\\b", "\\bcatch\\b", "\\bfinally\\b", "\\bassert\\b",
        "\\bsynchronized\\b", "\\bpackage\\b", "\\bextends\\b", "\\bimplements\\b", "\\bprotected\\b", "\\bnative\\b",
        "\\bdouble\\b", "\\bfloat\\b", "\\bSystem\\b", "\\bstatic \\{", "Exact\\b", "\\bLong\\b", "\\bInteger\\b",
        "\\bArrays\\b", "\\bvar\\b", "@", "\" *\\+", "\\+ *\"", "while \\(true\\)", "for \\(;"};

    private RulesTest() {
    }

    public static void main(String[] args) throws IOException {
        Path file = Paths.get(args.length > 0 ? args[0] : "src/main/java/MoodAnchor.java");
        List<String> lines = Files.readAllLines(file, StandardCharsets.US_ASCII);
        int classes = 0;
        int start = 0;
        for (int i = 0; i < lines.size(); i++) {
            String line = lines.get(i);
            String code = line.trim().startsWith("*") || line.trim().startsWith("/") ? "" : line;
            for (String pattern : REFUSED) {
                Check.due("line " + (i + 1) + " has " + pattern, Pattern.compile(pattern).matcher(code).find(), false);
            }
            Check.due("line " + (i + 1) + " is of 120 signs at most", line.length() <= 120, true);
            classes += code.contains("class ") ? 1 : 0;
            if (code.endsWith(") {") && code.matches(" {4}( {4})?\\S.*") || code.contains(") throws ")) {
                start = i;
            }
            if (code.matches(" {4}( {4})?\\}")) {
                Check.due("the method that ends at line " + (i + 1) + " is short", i - start <= 60, true);
                start = i;
            }
            made(i + 1, code);
            parameters(i + 1, code);
            imports(code);
        }
        Check.due("classes", classes <= 12, true);
        Check.end();
    }

    /** Rows are made with the object, as fields or in the class's own constructor: no call makes one but to throw it. */
    private static void made(int line, String code) {
        if (code.contains("new ")) {
            boolean isField = code.matches(" {8}private final [\\w\\[\\]]+ \\w+ = new .*;");
            boolean isOwn = code.matches(" {8}\\w+ = new [A-Z]\\w+\\(.*\\);");
            boolean isThrown = code.matches(" +throw new \\w+Exception\\(\"[a-z ]+\"\\);");
            Check.due("line " + line + " makes an object once", isField || isOwn || isThrown, true);
        }
    }

    private static void parameters(int line, String code) {
        Matcher matcher = Pattern.compile("^ +[a-z ]*[\\w\\[\\]]+ \\w+\\(((?:\\w+(?:\\[\\])? \\w+(?:, )?)*)\\).*\\{$").matcher(code);
        if (matcher.find()) {
            Check.due("line " + line + " has seven parameters at most", matcher.group(1).split(",").length <= 7, true);
        }
    }

    private static void imports(String code) {
        if (code.startsWith("import ")) {
            Check.due(code, code.equals("import java.util.NoSuchElementException;"), true);
        }
    }
}
