import java.io.ByteArrayOutputStream;
import java.math.BigInteger;
import java.nio.charset.StandardCharsets;
import java.util.ArrayDeque;
import java.util.ArrayList;
import java.util.Arrays;
import java.util.Deque;
import java.util.HashMap;
import java.util.HashSet;
import java.util.List;
import java.util.Map;
import java.util.NoSuchElementException;
import java.util.Set;
import java.util.TreeMap;

/** The document written a second time, as plainly as the Java library lets it, to compare with. */
public final class Model {
    private static final Set<String> LANGUAGE = new HashSet<>(Arrays.asList("bay", "lane", "deed", "wind", "ship",
        "reach", "trust", "seed", "law", "fond", "hold", "gain", "or", "and", "not", "joys", "last", "many", "gale",
        "date", "mood", "here"));
    private static final Set<String> NAMES = new HashSet<>(Arrays.asList("joys", "last", "many", "gale", "date",
        "mood", "here"));

    /** A fault ends the reading. */
    private static final class Fault extends RuntimeException {
        private static final long serialVersionUID = 1;
        final int sort;
        final int place;

        Fault(int sort, int place) {
            this.sort = sort;
            this.place = place;
        }
    }

    /** An expression's node; null is an ERROR. */
    private interface Node {
        BigInteger of(Map<String, Integer> names);
    }

    /** What a text tells. */
    private static final class Told {
        final List<String> bays = new ArrayList<>();
        final Map<Set<Integer>, Integer> lanes = new HashMap<>();
        final List<int[]> deeds = new ArrayList<>();
        final List<Integer> winds = new ArrayList<>();
        final Map<String, Integer> settings = new HashMap<>();
        final Map<String, Node> laws = new HashMap<>();
        int knots;
        int lines;

        int setting(String name, int without) {
            return settings.getOrDefault(name, without);
        }

        int days(int one, int other) {
            return lanes.getOrDefault(new HashSet<>(Arrays.asList(one, other)), 0);
        }

        int gale(int date) {
            return date < winds.size() ? winds.get(date) : 0;
        }
    }

    /** One time it was glad. */
    private static final class Memory {
        int joys;
        int many;
        int latest = -1000;

        Memory with(int joy, int date) {
            Memory next = new Memory();
            next.joys = Math.min(9999, joys + joy);
            next.many = many + 1;
            next.latest = Math.max(latest, date);
            return next;
        }

        Memory less() {
            Memory next = new Memory();
            next.joys = Math.max(0, joys - 2);
            next.many = many;
            next.latest = latest;
            return next;
        }

        int last(int date) {
            return Math.min(99, date - latest);
        }
    }

    /** The world of a morning. */
    private static final class World implements Cloneable {
        int date;
        Memory[] memories;
        int bay;
        boolean sea;
        int arrives;
        boolean copy;
        long number;
        int held;
        int adrift;
        int atSea;

        World another() {
            try {
                World next = (World) clone();
                next.memories = memories.clone();
                return next;
            } catch (CloneNotSupportedException e) {
                throw new IllegalStateException(e);
            }
        }

        int draw() {
            number = (number * 1103515245L + 12345L) % (1L << 31);
            return (int) (number / 65536);
        }
    }

    private ByteArrayOutputStream tape = new ByteArrayOutputStream();
    private Told told = new Told();
    private World world = begin(told);
    private World image;
    private Deque<World> before = new ArrayDeque<>();
    private List<int[]> notes = new ArrayList<>();
    private int knownBy = -1;
    private int fault;
    private int faultPlace = -1;

    // ---- the text

    private String text = "";
    private int at;
    private String token;
    private int place;
    private int open;

    private void next() {
        while (at < text.length() && (text.charAt(at) == ' ' || text.charAt(at) == '\n')) {
            at++;
        }
        place = at;
        if (at == text.length()) {
            token = "";
            return;
        }
        for (String pattern : new String[] {"[a-z]+", "[0-9]+", "<=|<>|>=", "(?s)."}) {
            java.util.regex.Matcher matcher = java.util.regex.Pattern.compile(pattern).matcher(text);
            matcher.region(at, text.length());
            if (matcher.lookingAt()) {
                token = matcher.group();
                at = matcher.end();
                return;
            }
        }
    }

    private void must(boolean is, int sort) {
        if (!is) {
            throw new Fault(sort, place);
        }
    }

    private static Told read(Model by, String text) {
        by.text = text;
        by.at = 0;
        by.next();
        Told result = new Told();
        while (!by.token.isEmpty()) {
            by.line(result);
            by.must(by.token.equals(";"), 1);
            by.next();
            result.lines++;
        }
        return result;
    }

    private boolean isName() {
        return token.matches("[a-z]{1,6}") && !LANGUAGE.contains(token);
    }

    private int bayOf(Told result) {
        must(isName(), 1);
        must(result.bays.contains(token), 4);
        return result.bays.indexOf(token);
    }

    private int number(int least, int most) {
        must(token.matches("[0-9]+"), 1);
        BigInteger value = new BigInteger(token);
        must(value.compareTo(BigInteger.valueOf(least)) >= 0 && value.compareTo(BigInteger.valueOf(most)) <= 0, 2);
        next();
        return value.intValue();
    }

    private void line(Told result) {
        String word = token;
        switch (word) {
            case "bay":
                must(result.bays.size() < 8, 2);
                next();
                must(isName(), 1);
                must(!result.bays.contains(token), 3);
                result.bays.add(token);
                next();
                break;
            case "lane":
                must(result.lanes.size() < 12, 2);
                next();
                int one = bayOf(result);
                next();
                int other = bayOf(result);
                must(one != other, 5);
                must(result.days(one, other) == 0, 3);
                next();
                result.lanes.put(new HashSet<>(Arrays.asList(one, other)), number(1, 9));
                break;
            case "deed":
                must(result.deeds.size() < 12, 2);
                next();
                int bay = bayOf(result);
                next();
                int date = number(0, 99);
                result.deeds.add(new int[] {bay, date, number(0, 9)});
                break;
            case "wind":
                must(result.winds.size() < 20, 2);
                next();
                result.winds.add(number(0, 9));
                break;
            case "ship":
                must(!result.settings.containsKey(word), 3);
                next();
                result.settings.put(word, bayOf(result));
                next();
                break;
            case "reach":
            case "trust":
            case "seed":
                must(!result.settings.containsKey(word), 3);
                next();
                result.settings.put(word,
                    number(word.equals("reach") ? 1 : 0, word.equals("reach") ? 9 : word.equals("trust") ? 100 : 99999));
                break;
            case "law":
                next();
                String rule = token;
                must(rule.equals("fond") || rule.equals("hold") || rule.equals("gain"), 1);
                must(!result.laws.containsKey(rule), 3);
                next();
                open = 0;
                result.laws.put(rule, either(result));
                break;
            default:
                must(false, 1);
        }
    }

    private String knot(Told result) {
        must(result.knots < 64, 2);
        result.knots++;
        String sign = token;
        next();
        return sign;
    }

    private Node either(Told result) {
        Node left = both(result);
        while (token.equals("or")) {
            left = joined(knot(result), left, both(result));
        }
        return left;
    }

    private Node both(Told result) {
        Node left = negated(result);
        while (token.equals("and")) {
            left = joined(knot(result), left, negated(result));
        }
        return left;
    }

    private Node negated(Told result) {
        if (!token.equals("not")) {
            return compared(result);
        }
        knot(result);
        Node inner = negated(result);
        return names -> {
            BigInteger value = inner.of(names);
            return value == null ? null : value.signum() == 0 ? BigInteger.ONE : BigInteger.ZERO;
        };
    }

    private Node compared(Told result) {
        Node left = sum(result);
        if (Arrays.asList("<", "<=", "=", "<>", ">=", ">").contains(token)) {
            left = joined(knot(result), left, sum(result));
        }
        return left;
    }

    private Node sum(Told result) {
        Node left = term(result);
        while (token.equals("+") || token.equals("-")) {
            left = joined(knot(result), left, term(result));
        }
        return left;
    }

    private Node term(Told result) {
        Node left = part(result);
        while (token.equals("*") || token.equals("/")) {
            left = joined(knot(result), left, part(result));
        }
        return left;
    }

    private Node part(Told result) {
        if (token.equals("(")) {
            must(open < 8, 2);
            open++;
            next();
            Node inner = either(result);
            must(token.equals(")"), 1);
            open--;
            next();
            return inner;
        }
        if (NAMES.contains(token)) {
            String name = knot(result);
            return names -> BigInteger.valueOf(names.get(name));
        }
        must(token.matches("[0-9]+"), 1);
        must(new BigInteger(token).compareTo(BigInteger.valueOf(9999)) <= 0, 2);
        BigInteger value = new BigInteger(knot(result));
        return names -> value;
    }

    private static Node joined(String sign, Node left, Node right) {
        return names -> {
            BigInteger a = left.of(names);
            BigInteger b = right.of(names);
            if (a == null || b == null || sign.equals("/") && b.signum() == 0) {
                return null;
            }
            BigInteger value = value(sign, a, b);
            return value.abs().compareTo(BigInteger.TEN.pow(12)) > 0 ? null : value;
        };
    }

    private static BigInteger value(String sign, BigInteger a, BigInteger b) {
        int order = a.compareTo(b);
        switch (sign) {
            case "+":
                return a.add(b);
            case "-":
                return a.subtract(b);
            case "*":
                return a.multiply(b);
            case "/":
                return a.divide(b);
            case "or":
                return bit(a.signum() != 0 || b.signum() != 0);
            case "and":
                return bit(a.signum() != 0 && b.signum() != 0);
            case "<":
                return bit(order < 0);
            case "<=":
                return bit(order <= 0);
            case "=":
                return bit(order == 0);
            case "<>":
                return bit(order != 0);
            case ">=":
                return bit(order >= 0);
            default:
                return bit(order > 0);
        }
    }

    private static BigInteger bit(boolean is) {
        return is ? BigInteger.ONE : BigInteger.ZERO;
    }

    // ---- moods and nights

    private static World begin(Told told) {
        World world = new World();
        world.memories = new Memory[told.bays.size()];
        for (int i = 0; i < world.memories.length; i++) {
            world.memories[i] = new Memory();
        }
        world.bay = told.setting("ship", 0);
        world.number = told.setting("seed", 0);
        return world;
    }

    private Map<String, Integer> names(Memory memory, int date, int gale, int here) {
        Map<String, Integer> names = new TreeMap<>();
        names.put("joys", memory.joys);
        names.put("last", memory.last(date));
        names.put("many", memory.many);
        names.put("gale", gale);
        names.put("date", date);
        names.put("here", here);
        names.put("mood", 0);
        names.put("mood", moodBy(names));
        return names;
    }

    private Long worth(String rule, Map<String, Integer> names) {
        BigInteger value = told.laws.containsKey(rule) ? told.laws.get(rule).of(names) : null;
        return value == null ? null : value.longValueExact();
    }

    private int moodBy(Map<String, Integer> names) {
        Long value = worth("fond", names);
        long mood = value == null ? 10L * names.get("joys") - names.get("last") : value;
        return (int) Math.max(0, Math.min(100, mood));
    }

    private boolean gripsBy(Map<String, Integer> names) {
        Long value = worth("hold", names);
        return value == null ? names.get("mood") >= 10 * names.get("gale") : value != 0;
    }

    private Memory foreseen(int bay, int date) {
        Memory memory = world.memories[bay];
        for (int[] deed : told.deeds) {
            if (deed[0] == bay && deed[1] >= world.date && deed[1] <= date) {
                memory = memory.with(deed[2], deed[1]);
            }
        }
        return memory;
    }

    private boolean grips(int bay, int date) {
        return gripsBy(names(foreseen(bay, date), date, told.gale(date), 0));
    }

    private boolean gripsByText(int bay, int date, int changed, int joy) {
        Memory memory = new Memory();
        for (int i = 0; i < told.deeds.size(); i++) {
            int[] deed = told.deeds.get(i);
            if (deed[0] == bay && deed[1] <= date) {
                memory = memory.with(i == changed ? joy : deed[2], deed[1]);
            }
        }
        return gripsBy(names(memory, date, told.gale(date), 0));
    }

    private static final int PLAIN = 0;
    private static final int AS_IT_GOES = 1;
    private static final int CHANCE = 2;

    private void day(World w, int how, int what, int i) {
        for (int d = 0; d < told.deeds.size(); d++) {
            int[] deed = told.deeds.get(d);
            if (deed[1] == w.date && !(what == 2 && d == i)) {
                w.memories[deed[0]] = w.memories[deed[0]].with(what == 3 ? 9 : deed[2], w.date);
            }
        }
        if (w.sea && w.arrives == w.date) {
            w.sea = false;
        }
        int gale = how == CHANCE ? w.draw() % 10 : what == 1 ? 0 : told.gale(w.date);
        if (w.sea) {
            w.atSea++;
        } else if (!told.bays.isEmpty()) {
            night(w, how, gale);
        }
        w.date++;
    }

    private void night(World w, int how, int gale) {
        int trust = told.setting("trust", 50);
        boolean held;
        if (w.copy) {
            held = how == AS_IT_GOES ? trust >= 50 : w.draw() % 100 < trust;
        } else {
            Map<String, Integer> names = names(w.memories[w.bay], w.date, gale, 1);
            held = gripsBy(names);
            if (held) {
                Long gain = worth("gain", names);
                int more = gain == null ? 1 : (int) Math.max(0, Math.min(9, gain));
                w.memories[w.bay] = w.memories[w.bay].with(more, w.date);
            } else {
                w.memories[w.bay] = w.memories[w.bay].less();
            }
        }
        w.held += held ? 1 : 0;
        w.adrift += held ? 0 : 1;
    }

    private boolean isBay(int bay) {
        return bay >= 0 && bay < told.bays.size();
    }

    private boolean isDeed(int deed) {
        return deed >= 0 && deed < told.deeds.size();
    }

    private boolean isAhead(int bay, int date) {
        return isBay(bay) && date >= world.date && date - world.date <= 99;
    }

    private int bays() {
        return told.bays.size();
    }

    private void done() {
        before.push(world.another());
        if (before.size() > 20) {
            before.removeLast();
        }
    }

    // ---- the face

    public int feed(int a, int b, int c, int d, int e) {
        if (tape.size() > 680) {
            return -1;
        }
        for (int number : new int[] {a, b, c, d, e}) {
            byte[] four = java.nio.ByteBuffer.allocate(4).putInt(number).array();
            tape.write(four, 0, 4);
        }
        return tape.size();
    }

    public int text(int n) {
        if (n < 0 || n > tape.size()) {
            return -2;
        }
        String all = new String(tape.toByteArray(), StandardCharsets.ISO_8859_1).substring(0, n);
        tape = new ByteArrayOutputStream();
        try {
            told = read(this, all);
        } catch (Fault f) {
            fault = f.sort;
            faultPlace = f.place;
            return -1;
        }
        fault = 0;
        faultPlace = -1;
        world = begin(told);
        image = null;
        before.clear();
        notes.clear();
        knownBy = -1;
        return told.lines;
    }

    public int fault(int what) {
        return what == 0 ? fault : what == 1 ? faultPlace : -1;
    }

    public int named(int letters) {
        for (int i = 0; i < bays(); i++) {
            if (Check.letters(told.bays.get(i)) == letters) {
                return i;
            }
        }
        return -1;
    }

    public int bay(int bay, int what) {
        if (!isBay(bay)) {
            throw new IndexOutOfBoundsException();
        }
        if (what < 0 || what > 3) {
            throw new NoSuchElementException();
        }
        Memory memory = world.memories[bay];
        int lies = !world.sea && world.bay == bay ? 1 : 0;
        return new int[] {memory.joys, memory.last(world.date), memory.many, lies}[what];
    }

    public int lane(int one, int other) {
        return isBay(one) && isBay(other) ? told.days(one, other) : -1;
    }

    public int deed(int deed, int what) {
        return isDeed(deed) && what >= 0 && what < 3 ? told.deeds.get(deed)[what] : -1;
    }

    public int wind(int date) {
        return date >= 0 && date <= 9999 ? told.gale(date) : -1;
    }

    public int mood(int bay, int date) {
        return isAhead(bay, date) ? names(foreseen(bay, date), date, told.gale(date), 0).get("mood") : -1;
    }

    public int holds(int bay, int date) {
        return isAhead(bay, date) ? grips(bay, date) ? 1 : 0 : -1;
    }

    public long law(int what, int bay) {
        if (what < 0 || what > 2 || !isBay(bay)) {
            return Long.MIN_VALUE;
        }
        int here = !world.sea && world.bay == bay ? 1 : 0;
        Map<String, Integer> names = names(world.memories[bay], world.date, told.gale(world.date), here);
        if (what == 0) {
            names.put("mood", 0);
        }
        Long value = worth(new String[] {"fond", "hold", "gain"}[what], names);
        return value == null ? Long.MIN_VALUE : value;
    }

    public int sail(int bay) {
        if (!isBay(bay)) {
            return -1;
        }
        if (world.sea) {
            return -2;
        }
        if (world.bay == bay) {
            return -1;
        }
        if (told.days(world.bay, bay) == 0) {
            return -2;
        }
        done();
        world.sea = true;
        world.arrives = world.date + told.days(world.bay, bay);
        world.bay = bay;
        return world.arrives;
    }

    public int kind(int bay, int joy) {
        if (!isBay(bay) || joy < 0 || joy > 9) {
            return -1;
        }
        done();
        world.memories[bay] = world.memories[bay].with(joy, world.date);
        return world.memories[bay].joys;
    }

    public boolean copy(boolean is) {
        if (world.copy == is) {
            return false;
        }
        done();
        world.copy = is;
        return true;
    }

    public int go(int n) {
        if (n < 0 || n > 99 || world.date + n > 9900) {
            return -1;
        }
        for (int i = 0; i < n; i++) {
            day(world, PLAIN, 0, 0);
            before.clear();
        }
        return world.date;
    }

    public int firstAdrift(int n) {
        if (n < 1 || n > 99) {
            return -1;
        }
        World w = world.another();
        for (int i = 1; i <= n; i++) {
            day(w, AS_IT_GOES, 0, 0);
            if (w.adrift != world.adrift) {
                return i;
            }
        }
        return -2;
    }

    /** All mornings and arrivals, walked forward as sets of {bay, lanes} by days. */
    private int[] wayTo(int goal) {
        int start = world.sea ? world.arrives - world.date : 0;
        if (goal == world.bay) {
            return new int[] {world.date + start, 0};
        }
        List<Set<List<Integer>>> mornings = new ArrayList<>();
        for (int i = 0; i < 100; i++) {
            mornings.add(new HashSet<>());
        }
        mornings.get(start).add(Arrays.asList(world.bay, 0));
        int[] best = null;
        for (int day = start; day <= 60; day++) {
            for (List<Integer> state : mornings.get(day)) {
                int bay = state.get(0);
                int lanes = state.get(1);
                if (grips(bay, world.date + day)) {
                    mornings.get(day + 1).add(state);
                }
                for (int other = 0; other < bays(); other++) {
                    int length = told.days(bay, other);
                    int then = day + length;
                    if (length == 0 || length > told.setting("reach", 9) || then > 60 || !grips(other, world.date + then)) {
                        continue;
                    }
                    int[] found = {world.date + then, lanes + 1};
                    if (other == goal && (best == null || Arrays.compare(found, best) < 0)) {
                        best = found;
                    }
                    mornings.get(then + 1).add(Arrays.asList(other, lanes + 1));
                }
            }
        }
        return best;
    }

    public int way(int bay, int what) {
        if (!isBay(bay) || what < 0 || what > 1) {
            return -1;
        }
        int[] way = wayTo(bay);
        return way == null ? -2 : way[what];
    }

    public int never() {
        int bits = 0;
        for (int bay = 0; bay < bays(); bay++) {
            bits += wayTo(bay) == null ? 1 << bay : 0;
        }
        return bits;
    }

    public int kindness(int bay, int date) {
        if (!isAhead(bay, date)) {
            return -1;
        }
        World now = world;
        int answer = -2;
        for (int joy = 9; joy >= 0; joy--) {
            world = now.another();
            world.memories[bay] = world.memories[bay].with(joy, world.date);
            answer = grips(bay, date) ? joy : answer;
        }
        world = now;
        return answer;
    }

    private int[] nights(int n) {
        int[] nights = new int[bays()];
        for (int bay = 0; bay < nights.length; bay++) {
            for (int i = 0; i < n; i++) {
                nights[bay] += grips(bay, world.date + i) ? 1 : 0;
            }
        }
        return nights;
    }

    public int winter(int n, int what) {
        if (n < 1 || n > 60 || what < 0 || what > 1 || bays() == 0) {
            return -1;
        }
        int[] nights = nights(n);
        int most = Arrays.stream(nights).max().getAsInt();
        for (int bay = 0; what == 0 && bay < nights.length; bay++) {
            if (nights[bay] == most) {
                return bay;
            }
        }
        return most;
    }

    public long copies(int n, int what) {
        if (n < 1 || n > 8 || what < 0 || what > 1) {
            return -1;
        }
        BigInteger above = BigInteger.valueOf(told.setting("trust", 50)).pow(n);
        BigInteger below = BigInteger.valueOf(100).pow(n);
        BigInteger common = above.gcd(below);
        return (what == 0 ? above : below).divide(common).longValueExact();
    }

    public int bids(int what) {
        if (what < 0 || what > 1 || bays() == 0) {
            return -1;
        }
        int[][] far = new int[bays()][bays()];
        for (int a = 0; a < bays(); a++) {
            for (int b = 0; b < bays(); b++) {
                far[a][b] = a == b ? 0 : told.days(a, b) > 0 ? 1 : 1000;
            }
        }
        for (int m = 0; m < bays(); m++) {
            for (int a = 0; a < bays(); a++) {
                for (int b = 0; b < bays(); b++) {
                    far[a][b] = Math.min(far[a][b], far[a][m] + far[m][b]);
                }
            }
        }
        int best = -1;
        int most = -1;
        for (int bay = 0; bay < bays(); bay++) {
            int bid = Math.max(0, mood(bay, world.date) - 10 * far[world.bay][bay]);
            if (bid > most) {
                most = bid;
                best = bay;
            }
        }
        return what == 0 ? best : most;
    }

    private List<Integer> allRests(int n) {
        int[] nights = nights(n);
        List<Integer> rests = new ArrayList<>();
        for (int a = 0; a < nights.length; a++) {
            for (int b = 0; b < nights.length; b++) {
                boolean is = true;
                for (int c = 0; c < nights.length; c++) {
                    is &= (c == b ? nights[c] / 2 : nights[c]) <= (a == b ? nights[a] / 2 : nights[a]);
                    is &= (c == a ? nights[c] / 2 : nights[c]) <= (a == b ? nights[b] / 2 : nights[b]);
                }
                if (is) {
                    rests.add(10 * a + b);
                }
            }
        }
        return rests;
    }

    public int rests(int n) {
        return n < 1 || n > 60 || bays() == 0 ? -1 : allRests(n).size();
    }

    public int rest(int n, int k) {
        if (n < 1 || n > 60 || bays() == 0 || k < 0) {
            return -1;
        }
        List<Integer> rests = allRests(n);
        return k < rests.size() ? rests.get(k) : -2;
    }

    /** Of a note: bay, date, held; or -1 and what it strikes. */
    public int note(int bay, int date, boolean held) {
        if (!isBay(bay) || date < 0 || date > 99 || notes.size() == 24) {
            return -1;
        }
        notes.add(new int[] {bay, date, held ? 1 : 0});
        return notes.size() - 1;
    }

    /** For tests: the note told last is gone; whether it is so by the text. */
    boolean takeLastNoteOff() {
        int[] note = notes.remove(notes.size() - 1);
        return gripsByText(note[0], note[1], -1, 0);
    }

    public int out(int note) {
        if (note < 0 || note >= notes.size() || notes.size() == 24) {
            return -1;
        }
        notes.add(new int[] {-1, note});
        return notes.size() - 1;
    }

    public boolean known(int n) {
        if (n < -1 || n > notes.size()) {
            return false;
        }
        knownBy = n;
        return true;
    }

    private int first() {
        return knownBy == -1 ? notes.size() : knownBy;
    }

    private boolean isStruck(int note) {
        for (int i = note + 1; i < first(); i++) {
            if (notes.get(i)[0] == -1 && notes.get(i)[1] == note && !isStruck(i)) {
                return true;
            }
        }
        return false;
    }

    public int was(int deed) {
        if (!isDeed(deed)) {
            return -1;
        }
        int bits = 0;
        for (int joy = 0; joy < 10; joy++) {
            boolean may = true;
            for (int i = 0; i < first(); i++) {
                int[] note = notes.get(i);
                if (note[0] != -1 && !isStruck(i)) {
                    may &= gripsByText(note[0], note[1], deed, joy) == (note[2] == 1);
                }
            }
            bits |= may ? 1 << joy : 0;
        }
        return bits;
    }

    public int tells(int deed) {
        int joys = was(deed);
        if (joys <= 0) {
            return joys == 0 ? -2 : -1;
        }
        int[] told3 = told.deeds.get(deed);
        int best = -1;
        int least = 100;
        for (int date = told3[1]; date <= told3[1] + 19; date++) {
            int yes = 0;
            int no = 0;
            for (int joy = 0; joy < 10; joy++) {
                if ((joys >> joy) % 2 == 1) {
                    if (gripsByText(told3[0], date, deed, joy)) {
                        yes++;
                    } else {
                        no++;
                    }
                }
            }
            if (Math.abs(yes - no) < least) {
                least = Math.abs(yes - no);
                best = date;
            }
        }
        return best;
    }

    public int chance(int seed, int n, int adrift) {
        if (seed < 0 || n < 1 || n > 60 || adrift < 0 || adrift > 60) {
            return -1;
        }
        long number = seed;
        int good = 0;
        for (int time = 0; time < 10; time++) {
            World w = world.another();
            w.number = number;
            for (int i = 0; i < n; i++) {
                day(w, CHANCE, 0, 0);
            }
            number = w.number;
            good += w.adrift - world.adrift <= adrift ? 1 : 0;
        }
        return good;
    }

    public int tried(int what, int i, int n) {
        if (what < 0 || what > 5 || n < 0 || n > 60 || (what == 2 ? !isDeed(i) : i != 0)) {
            return -1;
        }
        World w = world.another();
        w.copy = what == 4 || what != 5 && w.copy;
        for (int night = 0; night < n; night++) {
            day(w, AS_IT_GOES, what, i);
        }
        return w.adrift - world.adrift;
    }

    public int undo() {
        if (before.isEmpty()) {
            return -1;
        }
        world = before.pop();
        return before.size();
    }

    public int keep() {
        image = world.another();
        return world.date;
    }

    public int back() {
        if (image == null) {
            return -1;
        }
        world = image.another();
        before.clear();
        return world.date;
    }

    public int count(int what) {
        boolean sea = world.sea;
        int[] all = {bays(), told.lanes.size(), told.deeds.size(), told.winds.size(), told.knots, world.date,
            bays() == 0 ? -1 : sea ? -2 : world.bay, sea ? world.bay : -1, sea ? world.arrives : -1, world.held,
            world.adrift, world.atSea, world.copy ? 1 : 0, notes.size(), first(), before.size()};
        return what >= 0 && what < all.length ? all[what] : -1;
    }
}
