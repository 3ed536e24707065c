import java.nio.charset.StandardCharsets;

/** What the tests share: telling a text, comparing answers, ending with the right exit code. */
final class Check {
    private static int wrong = 0;
    private static int asked = 0;
    private static String sentence = "";

    private Check() {
    }

    /** Names what the next answers hold to. */
    static void under(String words) {
        sentence = words + ": ";
    }

    static void due(String call, long got, long want) {
        asked++;
        if (got != want) {
            wrong++;
            System.out.println(sentence + call + " answered " + got + ", due is " + want);
        }
    }

    static void due(String call, boolean got, boolean want) {
        due(call, got ? 1 : 0, want ? 1 : 0);
    }

    /** Feeds all bytes of a text, blanks behind it up to a feed's twenty. */
    static void feed(MoodAnchor x, String text) {
        byte[] bytes = text.getBytes(StandardCharsets.ISO_8859_1);
        for (int at = 0; at < bytes.length; at += 20) {
            int[] five = new int[5];
            for (int i = 0; i < 20; i++) {
                int sign = at + i < bytes.length ? bytes[at + i] & 255 : 32;
                five[i / 4] = five[i / 4] << 8 | sign;
            }
            x.feed(five[0], five[1], five[2], five[3], five[4]);
        }
    }

    static int tell(MoodAnchor x, String text) {
        feed(x, text);
        return x.text(text.length());
    }

    static MoodAnchor told(String text) {
        MoodAnchor x = new MoodAnchor();
        if (tell(x, text) < 0) {
            wrong++;
            System.out.println(sentence + "a text with fault " + x.fault(0) + " at " + x.fault(1) + ": " + text);
        }
        return x;
    }

    static void fault(String text, int sort, int place) {
        MoodAnchor x = new MoodAnchor();
        due("text of " + text, tell(x, text), -1);
        due("fault(0) of " + text, x.fault(0), sort);
        due("fault(1) of " + text, x.fault(1), place);
    }

    static void lines(String text, int lines) {
        due("text of " + text, tell(new MoodAnchor(), text), lines);
    }

    static int letters(String word) {
        int packed = 0;
        for (int i = 0; i < 6; i++) {
            packed = packed << 5 | (i < word.length() ? word.charAt(i) - 'a' + 1 : 0);
        }
        return packed;
    }

    static String repeat(String part, int times) {
        StringBuilder all = new StringBuilder();
        for (int i = 0; i < times; i++) {
            all.append(part);
        }
        return all.toString();
    }

    static void end() {
        System.out.println(wrong == 0 ? asked + " answers are as due" : wrong + " answers are not as due");
        if (wrong != 0) {
            System.exit(1);
        }
    }
}
