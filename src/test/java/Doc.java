import java.io.IOException;
import java.nio.charset.StandardCharsets;
import java.nio.file.Files;
import java.nio.file.Paths;

/**
 * The document's words. A test quotes the sentence that it holds to, by the promise's number; quotes must stand
 * in the document, and at the end no word of the terms and promises may be left that no test quoted.
 */
final class Doc {
    private static final int PROMISES = 36;
    private static final int TERMS = 0;
    private static final String PATH = "../shared/DOC.md";
    private static final String[] SECTIONS = read();
    private static final boolean[][] QUOTED = new boolean[PROMISES + 1][];
    private static int quotes = 0;

    private Doc() {
    }

    private static String[] read() {
        String all;
        try {
            all = new String(Files.readAllBytes(Paths.get(PATH)), StandardCharsets.UTF_8);
        } catch (IOException e) {
            throw new IllegalStateException("no document at " + PATH, e);
        }
        all = all.replace("```text", " ").replace("```", " ").replaceAll("\\s+", " ");
        String[] sections = new String[PROMISES + 1];
        sections[TERMS] = between(all, "## Terms ", "## Promise 1:");
        for (int number = 1; number <= PROMISES; number++) {
            String next = number < PROMISES ? "## Promise " + (number + 1) + ":" : "## Not promised";
            // Behind the title and the signature.
            sections[number] = between(between(all, "## Promise " + number + ":", next), "`: ", null);
        }
        return sections;
    }

    private static String between(String all, String from, String to) {
        int start = all.indexOf(from);
        int end = to == null ? all.length() : all.indexOf(to);
        if (start < 0 || end < start) {
            throw new IllegalStateException("the document has no " + from);
        }
        return all.substring(start + from.length(), end);
    }

    /** What is tested from here on: words of this promise. */
    static void promise(int number, String words) {
        quote(number, number, words);
    }

    /** What is tested from here on: words of the terms, seen by the calls of this promise. */
    static void term(int number, String words) {
        quote(number, TERMS, words);
    }

    private static void quote(int number, int section, String words) {
        Check.under("promise " + number + (section == TERMS ? " by the terms" : "") + ", \"" + words + "\"");
        quotes++;
        if (QUOTED[section] == null) {
            QUOTED[section] = new boolean[SECTIONS[section].length()];
        }
        int at = SECTIONS[section].indexOf(words);
        Check.due("the words stand in the document", at >= 0, true);
        for (int i = at; at >= 0 && i < at + words.length(); i++) {
            QUOTED[section][i] = true;
        }
    }

    /** No sentence without a test. */
    static void end() {
        Check.under("all words are quoted");
        for (int section = 0; section <= PROMISES; section++) {
            StringBuilder left = new StringBuilder();
            for (int i = 0; i < SECTIONS[section].length(); i++) {
                boolean isQuoted = QUOTED[section] != null && QUOTED[section][i];
                left.append(isQuoted ? '\n' : SECTIONS[section].charAt(i));
            }
            for (String words : left.toString().split("\n+")) {
                boolean isMark = words.replaceAll("==== [1-4]\\.", "").matches("[^A-Za-z0-9]*");
                Check.due("section " + section + " has no words left: " + words, isMark, true);
            }
        }
        System.out.println(quotes + " quotes");
    }
}
