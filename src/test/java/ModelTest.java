import java.lang.reflect.InvocationTargetException;
import java.lang.reflect.Method;
import java.nio.charset.StandardCharsets;
import java.util.ArrayList;
import java.util.List;
import java.util.Random;

/** Runs of calls, the class against the model; what is drawn is the same at every run of the test. */
public final class ModelTest {
    private static final String[] WORDS = {"bay", "lane", "deed", "wind", "ship", "reach", "trust", "seed", "law",
        "fond", "hold", "gain", "or", "and", "not", "joys", "last", "many", "gale", "date", "mood", "here", "a", "b",
        "zz", "abcdef", "abcdefg", "<", "<=", "=", "<>", ">=", ">", "+", "-", "*", "/", "(", ")", ";", "0", "1", "9",
        "10", "99", "100", "9999", "10000", "!", "\t"};
    private static final String[] NAMES = {"a", "b", "cork", "riga", "lagos", "abcdef", "z", "zz"};
    /** From what binds least on; not stands between and and the comparisons. */
    private static final String[][] SIGNS = {{" or "}, {" and "}, {}, {"<", "<=", "=", "<>", ">=", ">"}, {"+", "-"}, {"*", "/"}};
    private static final int NEGATIONS = 2;
    private static final int COMPARISONS = 3;
    private static final String[] VALUES = {"joys", "last", "many", "gale", "date", "mood", "here", "0", "1", "2", "5",
        "10", "100", "9999"};

    private final Random random;
    private final List<String> story = new ArrayList<>();
    private MoodAnchor x;
    private Model model;
    private int date;

    private ModelTest(long seed) {
        random = new Random(seed);
    }

    public static void main(String[] args) {
        int runs = args.length > 0 ? Integer.parseInt(args[0]) : 80;
        int from = args.length > 1 ? Integer.parseInt(args[1]) : 0;
        long asked = 0;
        for (int run = from; run < from + runs; run++) {
            ModelTest test = new ModelTest(run);
            asked += test.run();
            asked += test.faults();
        }
        System.out.println(asked + " answers are as the model's");
    }

    private int run() {
        begin();
        if (random.nextInt(20) > 0) {
            tell(text());
        }
        int calls = 150 + random.nextInt(250);
        List<Method> methods = methods();
        for (int i = 0; i < calls; i++) {
            Method method = methods.get(random.nextInt(methods.size()));
            if (method.getName().equals("text") && random.nextInt(8) > 0) {
                continue;
            }
            if (method.getName().equals("text") && random.nextInt(2) == 0) {
                tell(text());
            } else {
                both(method, likely(method, arguments(method)));
            }
            date = model.count(5);
        }
        return story.size();
    }

    private int faults() {
        int asked = 0;
        for (int i = 0; i < 40; i++) {
            begin();
            tell(random.nextInt(3) == 0 ? tokens() : spoiled(text()));
            both(method("fault"), 0);
            both(method("fault"), 1);
            for (int what = 0; what < 5; what++) {
                both(method("count"), what);
            }
            asked += story.size();
        }
        return asked;
    }

    private void begin() {
        story.clear();
        x = new MoodAnchor();
        model = new Model();
        date = 0;
    }

    private static List<Method> methods() {
        List<Method> methods = new ArrayList<>();
        for (Method method : MoodAnchor.class.getDeclaredMethods()) {
            if (java.lang.reflect.Modifier.isPublic(method.getModifiers())) {
                methods.add(method);
            }
        }
        methods.sort((a, b) -> a.getName().compareTo(b.getName()));
        return methods;
    }

    private static Method method(String name) {
        for (Method method : methods()) {
            if (method.getName().equals(name)) {
                return method;
            }
        }
        throw new IllegalArgumentException(name);
    }

    private void tell(String text) {
        byte[] bytes = text.getBytes(StandardCharsets.ISO_8859_1);
        // A tape may hold bytes already, which only a text that takes them all clears.
        both(method("text"), 0);
        Method feed = method("feed");
        for (int at = 0; at < bytes.length; at += 20) {
            Object[] five = {0, 0, 0, 0, 0};
            for (int i = 0; i < 20; i++) {
                five[i / 4] = (Integer) five[i / 4] << 8 | (at + i < bytes.length ? bytes[at + i] & 255 : 32);
            }
            both(feed, five);
        }
        both(method("text"), Math.min(700, bytes.length));
    }

    private void both(Method method, Object... arguments) {
        String got = answer(method, x, arguments);
        String want = "?";
        try {
            want = answer(Model.class.getMethod(method.getName(), method.getParameterTypes()), model, arguments);
        } catch (NoSuchMethodException e) {
            throw new IllegalStateException(e);
        }
        StringBuilder call = new StringBuilder(method.getName());
        for (Object argument : arguments) {
            call.append(' ').append(argument);
        }
        story.add(call + " -> " + got);
        if (!got.equals(want)) {
            story.forEach(System.out::println);
            System.out.println("due is " + want);
            System.exit(1);
        }
    }

    private static String answer(Method method, Object on, Object[] arguments) {
        try {
            return String.valueOf(method.invoke(on, arguments));
        } catch (InvocationTargetException e) {
            boolean isDue = method.getName().equals("bay");
            return isDue ? e.getCause().getClass().getName() : "threw " + e.getCause();
        } catch (IllegalAccessException e) {
            throw new IllegalStateException(e);
        }
    }

    private Object[] arguments(Method method) {
        Class<?>[] types = method.getParameterTypes();
        Object[] arguments = new Object[types.length];
        for (int i = 0; i < types.length; i++) {
            arguments[i] = types[i] == boolean.class ? (Object) random.nextBoolean() : (Object) number(method.getName(), i);
        }
        return arguments;
    }

    /** Notes that are mostly so: else no deed could have been of any joy. */
    private Object[] likely(Method method, Object[] arguments) {
        if (method.getName().equals("note") && model.note((Integer) arguments[0], (Integer) arguments[1], true) >= 0) {
            boolean is = model.takeLastNoteOff();
            arguments[2] = random.nextInt(12) == 0 ? !is : is;
        }
        return arguments;
    }

    private int number(String method, int i) {
        if (random.nextInt(40) == 0) {
            int[] odd = {-2147483648, -1, 0, 61, 99, 100, 101, 9999, 10000, 2147483647};
            return odd[random.nextInt(odd.length)];
        }
        switch (method + i) {
            case "mood1":
            case "holds1":
            case "kindness1":
                return date + random.nextInt(12) - 1;
            case "note1":
            case "wind0":
                return random.nextInt(25);
            case "go0":
                return random.nextInt(6) > 0 ? random.nextInt(4) : random.nextInt(102) - 1;
            case "firstAdrift0":
            case "winter0":
            case "rests0":
            case "rest0":
            case "tried2":
            case "chance1":
                return random.nextInt(3) > 0 ? random.nextInt(10) : random.nextInt(62);
            case "chance0":
                return random.nextInt() & 2147483647;
            case "count0":
                return random.nextInt(18) - 1;
            case "known0":
                return random.nextInt(8) - 1;
            case "tried0":
                return random.nextInt(8) - 1;
            case "tried1":
                return random.nextInt(2) * random.nextInt(12);
            case "named0":
                return Check.letters(NAMES[random.nextInt(NAMES.length)]);
            case "way1":
            case "bids0":
            case "winter1":
            case "copies1":
                return random.nextInt(8) == 0 ? random.nextInt(5) - 2 : random.nextInt(2);
            default:
                return random.nextInt(5) > 0 ? random.nextInt(4) : random.nextInt(14) - 1;
        }
    }

    private String text() {
        List<String> lines = new ArrayList<>();
        int bays = random.nextInt(10) == 0 ? 8 : 1 + random.nextInt(5);
        for (int i = 0; i < bays; i++) {
            lines.add("bay " + NAMES[i]);
        }
        for (int one = 0; one < bays; one++) {
            for (int other = one + 1; other < bays; other++) {
                if (random.nextInt(5) < 2 && lines.size() < 12 + bays) {
                    lines.add("lane " + NAMES[one] + " " + NAMES[other] + " " + (1 + random.nextInt(random.nextInt(3) == 0 ? 9 : 3)));
                }
            }
        }
        for (int i = random.nextInt(random.nextInt(8) == 0 ? 13 : 6); i > 0; i--) {
            lines.add("deed " + NAMES[random.nextInt(bays)] + " " + random.nextInt(random.nextInt(5) == 0 ? 100 : 12) + " " + random.nextInt(10));
        }
        for (int i = random.nextInt(21); i > 0; i--) {
            lines.add("wind " + random.nextInt(10));
        }
        int mask = random.nextInt(128) & random.nextInt(128) | random.nextInt(128) & random.nextInt(128);
        String[] rest = {"ship " + NAMES[random.nextInt(bays)], "reach " + (1 + random.nextInt(9)),
            "trust " + random.nextInt(101), "seed " + random.nextInt(100000), "law fond " + expression(3, 0),
            "law hold " + expression(3, 0), "law gain " + expression(2, 0)};
        for (int i = 0; i < rest.length; i++) {
            if ((mask >> i & 1) == 1) {
                lines.add(rest[i]);
            }
        }
        StringBuilder all = new StringBuilder();
        for (String line : lines) {
            all.append(line).append(random.nextInt(9) == 0 ? " ;\n" : ";");
        }
        return all.length() > 700 ? text() : all.toString();
    }

    /** By the grammar of E: what binds closer stands without brackets as often as within them. */
    private String expression(int depth, int level) {
        if (level == SIGNS.length) {
            boolean opens = depth > 0 && random.nextInt(4) == 0;
            return opens ? "(" + expression(depth - 1, 0) + ")" : VALUES[random.nextInt(VALUES.length)];
        }
        if (level == NEGATIONS) {
            return random.nextInt(5) == 0 ? "not " + expression(depth, level) : expression(depth, level + 1);
        }
        StringBuilder row = new StringBuilder(expression(depth, level + 1));
        for (int i = level == COMPARISONS ? 1 : 2; i > 0 && random.nextInt(4) == 0; i--) {
            row.append(SIGNS[level][random.nextInt(SIGNS[level].length)]).append(expression(depth, level + 1));
        }
        return row.toString();
    }

    private String tokens() {
        StringBuilder all = new StringBuilder("bay a;bay b;");
        all.append(random.nextBoolean() ? "law hold " : "");
        for (int i = random.nextInt(40); i > 0; i--) {
            all.append(WORDS[random.nextInt(WORDS.length)]).append(random.nextInt(3) == 0 ? "" : " ");
        }
        return all.toString();
    }

    /** One or two tokens put in, left out or changed. */
    private String spoiled(String text) {
        StringBuilder all = new StringBuilder(text);
        for (int i = random.nextInt(3); i >= 0 && all.length() > 0; i--) {
            int at = random.nextInt(all.length());
            String word = WORDS[random.nextInt(WORDS.length)];
            switch (random.nextInt(5)) {
                case 0:
                    all.setLength(at);
                    break;
                case 1:
                    all.deleteCharAt(at);
                    break;
                case 2:
                    all.insert(at, " " + word + " ");
                    break;
                case 3:
                    all.setCharAt(at, (char) random.nextInt(256));
                    break;
                default:
                    int end = Math.max(at, all.indexOf(";", at));
                    // A text that begins with ';' has no line ahead of it to tell twice.
                    int start = Math.min(end, all.lastIndexOf(";", Math.max(0, end - 1)) + 1);
                    all.insert(end, ";" + all.substring(start, end));
            }
        }
        return all.length() > 700 ? all.substring(0, 700) : all.toString();
    }
}
