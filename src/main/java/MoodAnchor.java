import java.util.NoSuchElementException;

/** An anchor that holds to where it was happiest. */
public final class MoodAnchor {
    public static final int NONE = -1;

    private static final int REFUSED = -2;
    private static final long ERROR = -9223372036854775808L;

    private static final int MAX_TAPE = 700;
    private static final int MAX_BAYS = 8;
    private static final int MAX_LANES = 12;
    private static final int MAX_DEEDS = 12;
    private static final int MAX_WINDS = 20;
    private static final int MAX_KNOTS = 64;
    private static final int MAX_OPEN = 8;
    private static final int MAX_NOTES = 24;
    private static final int MAX_UNDO = 20;
    private static final int MAX_JOY = 9;
    private static final int MAX_JOYS = 9999;
    private static final int MAX_MOOD = 100;
    private static final int MAX_NIGHTS = 60;
    private static final int LONG_AGO = 99;
    private static final int FORESIGHT = 99;
    private static final int LAST_NOW = 9900;
    private static final int LAST_DATE = 9999;

    private static final int FOND_RULE = 0;
    private static final int HOLD_RULE = 1;
    private static final int GAIN_RULE = 2;
    private static final int RULES = 3;

    // Kinds of tokens; those of the language's words stand in the order of LANGUAGE.
    private static final int END = 0;
    private static final int WRONG = 1;
    private static final int WORD = 2;
    private static final int NUMBER = 3;
    private static final int FIRST_WORD = 10;
    private static final int BAY = 10;
    private static final int LANE = 11;
    private static final int DEED = 12;
    private static final int WIND = 13;
    private static final int SHIP = 14;
    private static final int REACH = 15;
    private static final int TRUST = 16;
    private static final int SEED = 17;
    private static final int LAW = 18;
    private static final int FOND = 19;
    private static final int GAIN = 21;
    private static final int OR = 22;
    private static final int AND = 23;
    private static final int NOT = 24;
    private static final int JOYS = 25;
    private static final int LAST = 26;
    private static final int MANY = 27;
    private static final int GALE = 28;
    private static final int DATE = 29;
    private static final int MOOD = 30;
    private static final int HERE = 31;
    private static final int SEMICOLON = 40;
    private static final int OPEN = 41;
    private static final int CLOSE = 42;
    private static final int PLUS = 43;
    private static final int MINUS = 44;
    private static final int TIMES = 45;
    private static final int BY = 46;
    private static final int LESS = 47;
    private static final int LESS_OR_SAME = 48;
    private static final int SAME = 49;
    private static final int UNLIKE = 50;
    private static final int MORE_OR_SAME = 51;
    private static final int MORE = 52;

    private static final String LANGUAGE =
        "bay lane deed wind ship reach trust seed law fond hold gain or and not joys last many gale date mood here ";
    private static final int WORDS = 22;
    private static final int MAX_LETTERS = 6;

    private static final int FAULT_TOKEN = 1;
    private static final int FAULT_TOO_MUCH = 2;
    private static final int FAULT_TOLD = 3;
    private static final int FAULT_UNTOLD = 4;
    private static final int FAULT_ITSELF = 5;

    private final Tape tape;
    private final Reader reader;
    private final Chart chart;
    private final Chart draft;
    private final Log log;
    private final Log image;
    private final Doings doings;
    private final Foresight foresight;
    private final Days days;
    private final Ways ways;
    private final Notes notes;
    private boolean hasImage;
    private int faultSort;
    private int faultPlace;

    public MoodAnchor() {
        tape = new Tape();
        reader = new Reader(tape);
        chart = new Chart();
        draft = new Chart();
        log = new Log();
        image = new Log();
        doings = new Doings(log);
        foresight = new Foresight(chart, log);
        days = new Days(chart, log);
        ways = new Ways(chart, log, foresight);
        notes = new Notes(chart, foresight);
        log.begin(chart);
        hasImage = false;
        faultSort = 0;
        faultPlace = NONE;
    }

    public int feed(int a, int b, int c, int d, int e) {
        if (!tape.hasRoomFor(20)) {
            return NONE;
        }
        tape.add(a);
        tape.add(b);
        tape.add(c);
        tape.add(d);
        tape.add(e);
        return tape.size;
    }

    public int text(int n) {
        if (n < 0 || n > tape.size) {
            return REFUSED;
        }
        tape.cut(n);
        int lines = reader.read(draft);
        faultSort = reader.fault;
        faultPlace = reader.faultPlace();
        if (faultSort != 0) {
            return NONE;
        }
        // Only a text without a fault may touch the chart in use.
        reader.read(chart);
        log.begin(chart);
        notes.clear();
        doings.clear();
        hasImage = false;
        return lines;
    }

    public int fault(int what) {
        return what == 0 ? faultSort : what == 1 ? faultPlace : NONE;
    }

    public int named(int letters) {
        return chart.find(letters);
    }

    public int bay(int bay, int what) throws IndexOutOfBoundsException, NoSuchElementException {
        if (!chart.hasBay(bay)) {
            throw new IndexOutOfBoundsException("no such bay");
        }
        switch (what) {
            case 0:
                return log.joys[bay];
            case 1:
                return log.daysSince(bay);
            case 2:
                return log.many[bay];
            case 3:
                return log.lies == bay ? 1 : 0;
            default:
                throw new NoSuchElementException("no such what");
        }
    }

    public int lane(int one, int other) {
        if (!chart.hasBay(one) || !chart.hasBay(other)) {
            return NONE;
        }
        return chart.daysBetween(one, other);
    }

    public int deed(int deed, int what) {
        if (!chart.hasDeed(deed)) {
            return NONE;
        }
        switch (what) {
            case 0:
                return chart.deedBay[deed];
            case 1:
                return chart.deedDate[deed];
            case 2:
                return chart.deedJoy[deed];
            default:
                return NONE;
        }
    }

    public int wind(int date) {
        return date < 0 || date > LAST_DATE ? NONE : chart.galeOf(date);
    }

    public int mood(int bay, int date) {
        if (!canForesee(bay, date)) {
            return NONE;
        }
        return foresight.moodOf(bay, date);
    }

    public int holds(int bay, int date) {
        if (!canForesee(bay, date)) {
            return NONE;
        }
        return foresight.sees(bay, date) ? 1 : 0;
    }

    public long law(int what, int bay) {
        if (what < 0 || what >= RULES || !chart.hasBay(bay)) {
            return ERROR;
        }
        Scene scene = foresight.scene;
        scene.recall(log, bay);
        scene.set(log.date, chart.galeOf(log.date), log.lies == bay ? 1 : 0);
        if (what == FOND_RULE) {
            scene.mood = 0;
        } else {
            chart.laws.feel(scene);
        }
        return chart.laws.worth(what, scene);
    }

    public int sail(int bay) {
        if (!chart.hasBay(bay) || log.lies == bay) {
            return NONE;
        }
        int length = chart.daysBetween(log.lies, bay);
        if (log.heads != NONE || length == 0) {
            return REFUSED;
        }
        doings.sailed(log.lies);
        log.leaveFor(bay, length);
        return log.arrives;
    }

    public int kind(int bay, int joy) {
        if (!chart.hasBay(bay) || joy < 0 || joy > MAX_JOY) {
            return NONE;
        }
        doings.wasKind(bay);
        log.remember(bay, joy);
        return log.joys[bay];
    }

    public boolean copy(boolean is) {
        if (log.copyDown == is) {
            return false;
        }
        doings.copied();
        log.copyDown = is;
        return true;
    }

    public int go(int n) {
        if (n < 0 || n > 99 || log.date + n > LAST_NOW) {
            return NONE;
        }
        if (n > 0) {
            doings.clear();
        }
        days.asTold();
        for (int night = 0; night < n; night++) {
            days.pass(log);
        }
        return log.date;
    }

    public int firstAdrift(int n) {
        if (n < 1 || n > 99) {
            return NONE;
        }
        days.asItGoes();
        return days.firstAdriftOf(n);
    }

    public int way(int bay, int what) {
        if (!chart.hasBay(bay) || what < 0 || what > 1) {
            return NONE;
        }
        ways.plan();
        if (ways.dates[bay] == NONE) {
            return REFUSED;
        }
        return what == 0 ? ways.dates[bay] : ways.lanes[bay];
    }

    public int never() {
        ways.plan();
        int bits = 0;
        for (int bay = 0; bay < chart.bays && bay < MAX_BAYS; bay++) {
            if (ways.dates[bay] == NONE) {
                bits |= 1 << bay;
            }
        }
        return bits;
    }

    public int kindness(int bay, int date) {
        if (!canForesee(bay, date)) {
            return NONE;
        }
        for (int joy = 0; joy <= MAX_JOY; joy++) {
            if (foresight.seesWithKindness(bay, date, joy)) {
                return joy;
            }
        }
        return REFUSED;
    }

    public int winter(int n, int what) {
        if (!isShare(n) || what < 0 || what > 1) {
            return NONE;
        }
        foresight.countNights(n);
        int best = 0;
        for (int bay = 1; bay < chart.bays && bay < MAX_BAYS; bay++) {
            if (foresight.nights[bay] > foresight.nights[best]) {
                best = bay;
            }
        }
        return what == 0 ? best : foresight.nights[best];
    }

    public long copies(int n, int what) {
        if (n < 1 || n > 8 || what < 0 || what > 1) {
            return NONE;
        }
        int common = commonPart(chart.trust, 100);
        long part = what == 0 ? chart.trust / common : 100 / common;
        long power = 1;
        for (int i = 0; i < n; i++) {
            power *= part;
        }
        return power;
    }

    public int bids(int what) {
        if (chart.bays == 0 || what < 0 || what > 1) {
            return NONE;
        }
        ways.countLanes();
        int best = 0;
        int most = NONE;
        for (int bay = 0; bay < chart.bays && bay < MAX_BAYS; bay++) {
            int bid = bidOf(bay);
            if (bid > most) {
                best = bay;
                most = bid;
            }
        }
        return what == 0 ? best : most;
    }

    public int rests(int n) {
        if (!isShare(n)) {
            return NONE;
        }
        foresight.countNights(n);
        return foresight.findRests();
    }

    public int rest(int n, int k) {
        if (!isShare(n) || k < 0) {
            return NONE;
        }
        foresight.countNights(n);
        return k < foresight.findRests() ? foresight.rests[k] : REFUSED;
    }

    public int note(int bay, int date, boolean held) {
        if (!chart.hasBay(bay) || date < 0 || date > 99 || notes.size >= MAX_NOTES) {
            return NONE;
        }
        return notes.addSight(bay, date, held);
    }

    public int out(int note) {
        if (note < 0 || note >= notes.size || notes.size >= MAX_NOTES) {
            return NONE;
        }
        return notes.addStrike(note);
    }

    public boolean known(int n) {
        if (n < NONE || n > notes.size) {
            return false;
        }
        notes.by = n;
        return true;
    }

    public int was(int deed) {
        return chart.hasDeed(deed) ? notes.joysOf(deed) : NONE;
    }

    public int tells(int deed) {
        if (!chart.hasDeed(deed)) {
            return NONE;
        }
        int joys = notes.joysOf(deed);
        return joys == 0 ? REFUSED : notes.tellingDate(deed, joys);
    }

    public int chance(int seed, int n, int adrift) {
        if (seed < 0 || n < 1 || n > MAX_NIGHTS || adrift < 0 || adrift > MAX_NIGHTS) {
            return NONE;
        }
        int good = 0;
        long last = seed;
        for (int time = 0; time < 10; time++) {
            days.byChance(last);
            if (days.adriftOf(n) <= adrift) {
                good++;
            }
            last = days.trial.drawn;
        }
        return good;
    }

    public int tried(int what, int i, int n) {
        boolean isOne = what == 2 ? chart.hasDeed(i) : i == 0;
        if (what < 0 || what > 5 || !isOne || n < 0 || n > MAX_NIGHTS) {
            return NONE;
        }
        days.asItGoes();
        days.otherwise(what, i);
        return days.adriftOf(n);
    }

    public int undo() {
        return doings.takeBack();
    }

    public int keep() {
        image.take(log);
        hasImage = true;
        return log.date;
    }

    public int back() {
        if (!hasImage) {
            return NONE;
        }
        log.take(image);
        doings.clear();
        return log.date;
    }

    public int count(int what) {
        switch (what) {
            case 0:
                return chart.bays;
            case 1:
                return chart.lanes;
            case 2:
                return chart.deeds;
            case 3:
                return chart.winds;
            case 4:
                return chart.laws.size;
            case 13:
                return notes.size;
            case 14:
                return notes.knownBy();
            case 15:
                return doings.size;
            default:
                return countOfLog(what);
        }
    }

    private int countOfLog(int what) {
        switch (what) {
            case 5:
                return log.date;
            case 6:
                return log.heads != NONE ? REFUSED : log.lies;
            case 7:
                return log.heads;
            case 8:
                return log.arrives;
            case 9:
                return log.held;
            case 10:
                return log.adrift;
            case 11:
                return log.atSea;
            case 12:
                return log.copyDown ? 1 : 0;
            default:
                return NONE;
        }
    }

    private boolean canForesee(int bay, int date) {
        return chart.hasBay(bay) && date >= log.date && date <= log.date + FORESIGHT;
    }

    private boolean isShare(int n) {
        return n >= 1 && n <= MAX_NIGHTS && chart.bays > 0;
    }

    private int bidOf(int bay) {
        int far = ways.lanes[bay];
        if (far == NONE) {
            return 0;
        }
        return Math.max(0, foresight.moodOf(bay, log.date) - 10 * far);
    }

    private static int commonPart(int one, int other) {
        for (int part = other; part > 1; part--) {
            if (one % part == 0 && other % part == 0) {
                return part;
            }
        }
        return 1;
    }

    /** The bytes that came, and the tokens of those that were cut off as a text. */
    private static final class Tape {
        private final byte[] bytes = new byte[MAX_TAPE];
        private final int[] sorts = new int[MAX_TAPE];
        private final int[] values = new int[MAX_TAPE];
        private final int[] places = new int[MAX_TAPE];
        private final int[] words = new int[WORDS];
        private int size;
        private int length;
        private int tokens;
        private int at;

        Tape() {
            int word = 0;
            int letters = 0;
            int packed = 0;
            for (int i = 0; i < LANGUAGE.length() && word < WORDS; i++) {
                char sign = LANGUAGE.charAt(i);
                if (sign == ' ') {
                    words[word] = packed << 5 * (MAX_LETTERS - letters);
                    word++;
                    letters = 0;
                    packed = 0;
                } else {
                    packed = packed << 5 | sign - 'a' + 1;
                    letters++;
                }
            }
        }

        boolean hasRoomFor(int more) {
            return size + more <= MAX_TAPE;
        }

        void add(int number) {
            for (int shift = 24; shift >= 0 && size < MAX_TAPE; shift -= 8) {
                bytes[size] = (byte) (number >> shift);
                size++;
            }
        }

        /** The first n bytes become tokens; the tape is empty then. */
        void cut(int n) {
            length = Math.min(n, size);
            size = 0;
            tokens = 0;
            at = 0;
            for (int i = 0; i < MAX_TAPE && at < length; i++) {
                int sign = bytes[at];
                if (sign == 10 || sign == 32) {
                    at++;
                } else if (isLetter(sign)) {
                    cutWord();
                } else if (isDigit(sign)) {
                    cutNumber();
                } else {
                    cutSign(sign);
                }
            }
        }

        private void cutWord() {
            int from = at;
            int packed = 0;
            while (at < length && isLetter(bytes[at])) {
                if (at - from < MAX_LETTERS) {
                    packed |= bytes[at] - 'a' + 1 << 5 * (MAX_LETTERS - 1 - (at - from));
                }
                at++;
            }
            if (at - from > MAX_LETTERS) {
                addToken(WRONG, 0, from);
            } else {
                addToken(sortOfWord(packed), packed, from);
            }
        }

        private int sortOfWord(int packed) {
            for (int word = 0; word < WORDS; word++) {
                if (words[word] == packed) {
                    return FIRST_WORD + word;
                }
            }
            return WORD;
        }

        private void cutNumber() {
            int from = at;
            int value = 0;
            while (at < length && isDigit(bytes[at])) {
                // A million is beyond all that a number may be, and keeps long ones from wrapping round.
                value = Math.min(1000000, value * 10 + bytes[at] - '0');
                at++;
            }
            addToken(NUMBER, value, from);
        }

        private void cutSign(int sign) {
            int from = at;
            int second = at + 1 < length ? bytes[at + 1] : 0;
            at++;
            int sort = sortOfPair(sign, second);
            if (sort == WRONG) {
                sort = sortOfSign(sign);
            } else {
                at++;
            }
            addToken(sort, 0, from);
        }

        private static int sortOfPair(int sign, int second) {
            if (sign == '<' && second == '=') {
                return LESS_OR_SAME;
            }
            if (sign == '<' && second == '>') {
                return UNLIKE;
            }
            return sign == '>' && second == '=' ? MORE_OR_SAME : WRONG;
        }

        private static int sortOfSign(int sign) {
            switch (sign) {
                case ';':
                    return SEMICOLON;
                case '(':
                    return OPEN;
                case ')':
                    return CLOSE;
                case '+':
                    return PLUS;
                case '-':
                    return MINUS;
                case '*':
                    return TIMES;
                case '/':
                    return BY;
                case '<':
                    return LESS;
                case '=':
                    return SAME;
                case '>':
                    return MORE;
                default:
                    return WRONG;
            }
        }

        private void addToken(int sort, int value, int from) {
            if (tokens < MAX_TAPE) {
                sorts[tokens] = sort;
                values[tokens] = value;
                places[tokens] = from;
                tokens++;
            }
        }

        int sortOf(int token) {
            return token >= 0 && token < tokens ? sorts[token] : END;
        }

        int valueOf(int token) {
            return token >= 0 && token < tokens ? values[token] : 0;
        }

        int placeOf(int token) {
            return token >= 0 && token < tokens ? places[token] : length;
        }

        private static boolean isLetter(int sign) {
            return sign >= 'a' && sign <= 'z';
        }

        private static boolean isDigit(int sign) {
            return sign >= '0' && sign <= '9';
        }
    }

    /** Tells a chart the lines of the tape's tokens, up to the first fault. */
    private static final class Reader {
        private final Tape tape;
        private Chart chart;
        private int at;
        private int told;
        private int fault;
        private int faultAt;
        private final int[] waiting = new int[MAX_KNOTS + MAX_OPEN];
        private int waits;
        private int knots;
        private int open;
        private boolean wantsOperand;
        private boolean notMayStand;

        Reader(Tape tape) {
            this.tape = tape;
        }

        int read(Chart target) {
            chart = target;
            chart.clear();
            at = 0;
            told = 0;
            fault = 0;
            knots = 0;
            int lines = 0;
            while (lines < MAX_TAPE && fault == 0 && tape.sortOf(at) != END) {
                readLine();
                lines++;
            }
            return lines;
        }

        int faultPlace() {
            return fault == 0 ? NONE : tape.placeOf(faultAt);
        }

        /** Keeps the first fault alone: tokens are looked at along the text. */
        private void fail(int sort) {
            if (fault == 0) {
                fault = sort;
                faultAt = at;
            }
        }

        private void readLine() {
            switch (tape.sortOf(at)) {
                case BAY:
                    readBay();
                    break;
                case LANE:
                    readLane();
                    break;
                case DEED:
                    readDeed();
                    break;
                case WIND:
                    readWind();
                    break;
                case SHIP:
                    readShip();
                    break;
                case REACH:
                case TRUST:
                case SEED:
                    readSetting(tape.sortOf(at));
                    break;
                case LAW:
                    readLaw();
                    break;
                default:
                    fail(FAULT_TOKEN);
            }
            if (tape.sortOf(at) != SEMICOLON) {
                fail(FAULT_TOKEN);
            }
            at++;
        }

        private void readBay() {
            needRoom(chart.bays, MAX_BAYS);
            at++;
            if (tape.sortOf(at) != WORD) {
                fail(FAULT_TOKEN);
            } else if (chart.find(tape.valueOf(at)) != NONE) {
                fail(FAULT_TOLD);
            }
            if (fault == 0) {
                chart.addBay(tape.valueOf(at));
            }
            at++;
        }

        private void readLane() {
            needRoom(chart.lanes, MAX_LANES);
            at++;
            int one = toldBay();
            at++;
            int other = toldBay();
            if (one == other) {
                fail(FAULT_ITSELF);
            } else if (chart.daysBetween(one, other) != 0) {
                fail(FAULT_TOLD);
            }
            at++;
            int length = takeNumber(1, 9);
            if (fault == 0) {
                chart.addLane(one, other, length);
            }
        }

        private void readDeed() {
            needRoom(chart.deeds, MAX_DEEDS);
            at++;
            int bay = toldBay();
            at++;
            int date = takeNumber(0, 99);
            int joy = takeNumber(0, MAX_JOY);
            if (fault == 0) {
                chart.addDeed(bay, date, joy);
            }
        }

        private void readWind() {
            needRoom(chart.winds, MAX_WINDS);
            at++;
            int gale = takeNumber(0, 9);
            if (fault == 0) {
                chart.addWind(gale);
            }
        }

        private void readShip() {
            needOnce(SHIP);
            at++;
            chart.ship = toldBay();
            at++;
        }

        private void readSetting(int word) {
            needOnce(word);
            at++;
            if (word == REACH) {
                chart.reach = takeNumber(1, 9);
            } else if (word == TRUST) {
                chart.trust = takeNumber(0, 100);
            } else {
                chart.seed = takeNumber(0, 99999);
            }
        }

        private void readLaw() {
            at++;
            int rule = tape.sortOf(at) - FOND;
            if (rule < 0 || rule > GAIN - FOND) {
                fail(FAULT_TOKEN);
                return;
            }
            needOnce(tape.sortOf(at));
            at++;
            chart.laws.begin(rule);
            readExpression();
            chart.laws.end(rule);
        }

        private void needRoom(int many, int most) {
            if (many >= most) {
                fail(FAULT_TOO_MUCH);
            }
        }

        private void needOnce(int word) {
            int bit = 1 << word;
            if ((told & bit) != 0) {
                fail(FAULT_TOLD);
            }
            told |= bit;
        }

        private int toldBay() {
            if (tape.sortOf(at) != WORD) {
                fail(FAULT_TOKEN);
                return NONE;
            }
            int bay = chart.find(tape.valueOf(at));
            if (bay == NONE) {
                fail(FAULT_UNTOLD);
            }
            return bay;
        }

        private int takeNumber(int least, int most) {
            int value = tape.valueOf(at);
            if (tape.sortOf(at) != NUMBER) {
                fail(FAULT_TOKEN);
            } else if (value < least || value > most) {
                fail(FAULT_TOO_MUCH);
            }
            at++;
            return value;
        }

        /**
         * Signs wait on a stack until what binds closer has been told, so that no method has to
         * call itself and an expression lies in the law as its reverse Polish row.
         */
        private void readExpression() {
            waits = 0;
            open = 0;
            wantsOperand = true;
            notMayStand = true;
            for (int i = 0; i <= MAX_TAPE && fault == 0; i++) {
                int sort = tape.sortOf(at);
                if (wantsOperand) {
                    readOperand(sort);
                } else if (sort == SEMICOLON && open == 0) {
                    break;
                } else if (sort == CLOSE && open > 0) {
                    closeOne();
                } else {
                    readOperator(sort);
                }
                if (fault == 0) {
                    at++;
                }
            }
            tellDownTo(0);
        }

        private void readOperand(int sort) {
            if (sort == NUMBER) {
                if (tape.valueOf(at) > 9999) {
                    fail(FAULT_TOO_MUCH);
                }
                countKnot();
                chart.laws.add(NUMBER, tape.valueOf(at));
                wantsOperand = false;
            } else if (sort >= JOYS && sort <= HERE) {
                countKnot();
                chart.laws.add(sort, 0);
                wantsOperand = false;
            } else if (sort == OPEN) {
                needRoom(open, MAX_OPEN);
                open++;
                letWait(OPEN);
                notMayStand = true;
            } else if (sort == NOT && notMayStand) {
                countKnot();
                letWait(NOT);
            } else {
                fail(FAULT_TOKEN);
            }
        }

        private void readOperator(int sort) {
            int rank = rankOf(sort);
            if (rank == 0 || sort == NOT) {
                fail(FAULT_TOKEN);
                return;
            }
            boolean compares = rank == rankOf(SAME);
            tellDownTo(compares ? rank + 1 : rank);
            // One comparison has two sides alone: a second one can't stand behind it.
            if (compares && waits > 0 && rankOf(waiting[waits - 1]) == rank) {
                fail(FAULT_TOKEN);
                return;
            }
            countKnot();
            letWait(sort);
            wantsOperand = true;
            notMayStand = sort == OR || sort == AND;
        }

        private void closeOne() {
            tellDownTo(1);
            if (waits > 0) {
                waits--;
            }
            open--;
        }

        /** Signs of this rank or above leave the stack, down to the latest open bracket. */
        private void tellDownTo(int rank) {
            while (waits > 0 && waiting[waits - 1] != OPEN && rankOf(waiting[waits - 1]) >= rank) {
                waits--;
                chart.laws.add(waiting[waits], 0);
            }
        }

        private void countKnot() {
            if (knots >= MAX_KNOTS) {
                fail(FAULT_TOO_MUCH);
            }
            knots++;
        }

        private void letWait(int sort) {
            if (waits < waiting.length) {
                waiting[waits] = sort;
                waits++;
            }
        }

        private static int rankOf(int sort) {
            switch (sort) {
                case OR:
                    return 1;
                case AND:
                    return 2;
                case NOT:
                    return 3;
                case LESS:
                case LESS_OR_SAME:
                case SAME:
                case UNLIKE:
                case MORE_OR_SAME:
                case MORE:
                    return 4;
                case PLUS:
                case MINUS:
                    return 5;
                case TIMES:
                case BY:
                    return 6;
                default:
                    return 0;
            }
        }
    }

    /** What the text tells. */
    private static final class Chart {
        private final int[] names = new int[MAX_BAYS];
        private final int[] lengths = new int[MAX_BAYS * MAX_BAYS];
        private final int[] deedBay = new int[MAX_DEEDS];
        private final int[] deedDate = new int[MAX_DEEDS];
        private final int[] deedJoy = new int[MAX_DEEDS];
        private final int[] gales = new int[MAX_WINDS];
        private final Laws laws = new Laws();
        private int bays;
        private int lanes;
        private int deeds;
        private int winds;
        private int ship;
        private int reach;
        private int trust;
        private int seed;

        Chart() {
            clear();
        }

        private void clear() {
            for (int i = 0; i < lengths.length; i++) {
                lengths[i] = 0;
            }
            laws.clear();
            bays = 0;
            lanes = 0;
            deeds = 0;
            winds = 0;
            ship = NONE;
            reach = 9;
            trust = 50;
            seed = 0;
        }

        boolean hasBay(int bay) {
            return bay >= 0 && bay < bays && bay < MAX_BAYS;
        }

        boolean hasDeed(int deed) {
            return deed >= 0 && deed < deeds && deed < MAX_DEEDS;
        }

        int find(int letters) {
            for (int bay = 0; bay < bays && bay < MAX_BAYS; bay++) {
                if (names[bay] == letters) {
                    return bay;
                }
            }
            return NONE;
        }

        int daysBetween(int one, int other) {
            return hasBay(one) && hasBay(other) ? lengths[one * MAX_BAYS + other] : 0;
        }

        int galeOf(int date) {
            return date >= 0 && date < winds && date < MAX_WINDS ? gales[date] : 0;
        }

        int firstBay() {
            return ship != NONE ? ship : bays > 0 ? 0 : NONE;
        }

        void addBay(int letters) {
            if (bays < MAX_BAYS) {
                names[bays] = letters;
                bays++;
            }
        }

        void addLane(int one, int other, int length) {
            if (hasBay(one) && hasBay(other)) {
                lengths[one * MAX_BAYS + other] = length;
                lengths[other * MAX_BAYS + one] = length;
                lanes++;
            }
        }

        void addDeed(int bay, int date, int joy) {
            if (deeds < MAX_DEEDS) {
                deedBay[deeds] = bay;
                deedDate[deeds] = date;
                deedJoy[deeds] = joy;
                deeds++;
            }
        }

        void addWind(int gale) {
            if (winds < MAX_WINDS) {
                gales[winds] = gale;
                winds++;
            }
        }
    }

    /** The laws' expressions, one behind another as reverse Polish rows. */
    private static final class Laws {
        private static final long LIMIT = 1000000000000L;

        private final int[] sorts = new int[MAX_KNOTS];
        private final int[] values = new int[MAX_KNOTS];
        private final int[] from = new int[RULES];
        private final int[] to = new int[RULES];
        private final long[] stack = new long[MAX_KNOTS];
        private int size;

        private void clear() {
            size = 0;
            for (int rule = 0; rule < RULES; rule++) {
                from[rule] = 0;
                to[rule] = 0;
            }
        }

        void begin(int rule) {
            if (rule >= 0 && rule < RULES) {
                from[rule] = size;
            }
        }

        void add(int sort, int value) {
            if (size < MAX_KNOTS) {
                sorts[size] = sort;
                values[size] = value;
                size++;
            }
        }

        void end(int rule) {
            if (rule >= 0 && rule < RULES) {
                to[rule] = size;
            }
        }

        /** The scene gets its mood, which the other laws ask for. */
        void feel(Scene scene) {
            scene.mood = 0;
            long value = worth(FOND_RULE, scene);
            if (value == ERROR) {
                value = 10 * scene.joys - scene.last;
            }
            scene.mood = (int) Math.max(0, Math.min(MAX_MOOD, value));
        }

        boolean grips(Scene scene) {
            long value = worth(HOLD_RULE, scene);
            return value == ERROR ? scene.mood >= 10 * scene.gale : value != 0;
        }

        int gainOf(Scene scene) {
            long value = worth(GAIN_RULE, scene);
            return value == ERROR ? 1 : (int) Math.max(0, Math.min(MAX_JOY, value));
        }

        /** ERROR without a law, too: both are answered alike everywhere. */
        long worth(int rule, Scene scene) {
            if (rule < 0 || rule >= RULES || from[rule] >= to[rule]) {
                return ERROR;
            }
            int top = 0;
            for (int i = from[rule]; i < to[rule] && i < MAX_KNOTS; i++) {
                int sort = sorts[i];
                if (sort == NOT && top > 0) {
                    stack[top - 1] = stack[top - 1] == 0 ? 1 : 0;
                } else if (sort == NUMBER || sort >= JOYS && sort <= HERE) {
                    if (top < MAX_KNOTS) {
                        stack[top] = sort == NUMBER ? values[i] : scene.valueOf(sort);
                        top++;
                    }
                } else if (top > 1) {
                    top--;
                    stack[top - 1] = join(sort, stack[top - 1], stack[top]);
                    if (stack[top - 1] == ERROR) {
                        return ERROR;
                    }
                }
            }
            return stack[0];
        }

        private static long join(int sort, long left, long right) {
            switch (sort) {
                case OR:
                    return left != 0 || right != 0 ? 1 : 0;
                case AND:
                    return left != 0 && right != 0 ? 1 : 0;
                case LESS:
                    return left < right ? 1 : 0;
                case LESS_OR_SAME:
                    return left <= right ? 1 : 0;
                case SAME:
                    return left == right ? 1 : 0;
                case UNLIKE:
                    return left != right ? 1 : 0;
                case MORE_OR_SAME:
                    return left >= right ? 1 : 0;
                case MORE:
                    return left > right ? 1 : 0;
                case BY:
                    return right == 0 ? ERROR : left / right;
                default:
                    break;
            }
            // Asked ahead of the product, which may be too large for a long.
            if (sort == TIMES && left != 0 && (right < 0 ? -right : right) > LIMIT / (left < 0 ? -left : left)) {
                return ERROR;
            }
            long value = sort == TIMES ? left * right : sort == PLUS ? left + right : left - right;
            return value > LIMIT || value < -LIMIT ? ERROR : value;
        }
    }

    /** One bay on one date, as the laws see it. */
    private static final class Scene {
        private int joys;
        private int many;
        private int latest;
        private int last;
        private int date;
        private int gale;
        private int here;
        private int mood;

        void forget() {
            joys = 0;
            many = 0;
            latest = NONE;
        }

        void recall(Log log, int bay) {
            forget();
            if (bay >= 0 && bay < MAX_BAYS) {
                joys = log.joys[bay];
                many = log.many[bay];
                latest = log.latest[bay];
            }
        }

        void add(int joy, int when) {
            joys = Math.min(MAX_JOYS, joys + joy);
            many++;
            latest = Math.max(latest, when);
        }

        /** Behind all that was recalled or added: how long ago that was is told by the date. */
        void set(int date, int gale, int here) {
            this.date = date;
            this.gale = gale;
            this.here = here;
            last = latest == NONE ? LONG_AGO : Math.min(LONG_AGO, date - latest);
        }

        long valueOf(int name) {
            switch (name) {
                case JOYS:
                    return joys;
                case LAST:
                    return last;
                case MANY:
                    return many;
                case GALE:
                    return gale;
                case DATE:
                    return date;
                case MOOD:
                    return mood;
                default:
                    return here;
            }
        }
    }

    /** How it stands in the morning of a date: all that an image keeps. */
    private static final class Log {
        private final int[] joys = new int[MAX_BAYS];
        private final int[] many = new int[MAX_BAYS];
        private final int[] latest = new int[MAX_BAYS];
        private int date;
        private int lies;
        private int heads;
        private int arrives;
        private boolean copyDown;
        private long drawn;
        private int held;
        private int adrift;
        private int atSea;

        Log() {
            lies = NONE;
            heads = NONE;
            arrives = NONE;
        }

        void begin(Chart chart) {
            for (int bay = 0; bay < MAX_BAYS; bay++) {
                joys[bay] = 0;
                many[bay] = 0;
                latest[bay] = NONE;
            }
            date = 0;
            lies = chart.firstBay();
            heads = NONE;
            arrives = NONE;
            copyDown = false;
            drawn = chart.seed;
            held = 0;
            adrift = 0;
            atSea = 0;
        }

        void take(Log other) {
            for (int bay = 0; bay < MAX_BAYS; bay++) {
                joys[bay] = other.joys[bay];
                many[bay] = other.many[bay];
                latest[bay] = other.latest[bay];
            }
            date = other.date;
            lies = other.lies;
            heads = other.heads;
            arrives = other.arrives;
            copyDown = other.copyDown;
            drawn = other.drawn;
            held = other.held;
            adrift = other.adrift;
            atSea = other.atSea;
        }

        int daysSince(int bay) {
            if (bay < 0 || bay >= MAX_BAYS || latest[bay] == NONE) {
                return LONG_AGO;
            }
            return Math.min(LONG_AGO, date - latest[bay]);
        }

        void remember(int bay, int joy) {
            if (bay >= 0 && bay < MAX_BAYS) {
                joys[bay] = Math.min(MAX_JOYS, joys[bay] + joy);
                many[bay]++;
                latest[bay] = date;
            }
        }

        void drag(int bay) {
            if (bay >= 0 && bay < MAX_BAYS) {
                joys[bay] = Math.max(0, joys[bay] - 2);
            }
        }

        void leaveFor(int bay, int length) {
            lies = NONE;
            heads = bay;
            arrives = date + length;
        }

        void lieIn(int bay) {
            lies = bay;
            heads = NONE;
            arrives = NONE;
        }

        int draw() {
            drawn = drawn * 1103515245L + 12345L & 0x7fffffffL;
            return (int) (drawn / 65536L);
        }
    }

    /** What was done by call since the last night, the latest first to be undone. */
    private static final class Doings {
        private static final int SAILED = 0;
        private static final int WAS_KIND = 1;
        private static final int COPIED = 2;

        private final Log log;
        private final int[] what = new int[MAX_UNDO];
        private final int[] bays = new int[MAX_UNDO];
        private final int[] joys = new int[MAX_UNDO];
        private final int[] latest = new int[MAX_UNDO];
        private int size;

        Doings(Log log) {
            this.log = log;
        }

        void clear() {
            size = 0;
        }

        void sailed(int from) {
            add(SAILED, from);
        }

        void wasKind(int bay) {
            add(WAS_KIND, bay);
        }

        void copied() {
            add(COPIED, 0);
        }

        private void add(int deed, int bay) {
            if (bay < 0 || bay >= MAX_BAYS) {
                return;
            }
            if (size >= MAX_UNDO) {
                forgetFirst();
            }
            what[size] = deed;
            bays[size] = bay;
            joys[size] = log.joys[bay];
            latest[size] = log.latest[bay];
            size++;
        }

        private void forgetFirst() {
            for (int i = 1; i < MAX_UNDO; i++) {
                what[i - 1] = what[i];
                bays[i - 1] = bays[i];
                joys[i - 1] = joys[i];
                latest[i - 1] = latest[i];
            }
            size = MAX_UNDO - 1;
        }

        int takeBack() {
            if (size <= 0 || size > MAX_UNDO) {
                return NONE;
            }
            size--;
            int bay = bays[size];
            if (what[size] == SAILED) {
                log.lieIn(bay);
            } else if (what[size] == COPIED) {
                log.copyDown = !log.copyDown;
            } else if (bay >= 0 && bay < MAX_BAYS) {
                log.joys[bay] = joys[size];
                log.many[bay]--;
                log.latest[bay] = latest[size];
            }
            return size;
        }
    }

    /** Lets days go by: truly, as it goes, or by chance. */
    private static final class Days {
        private final Chart chart;
        private final Log log;
        private final Log trial = new Log();
        private final Scene scene = new Scene();
        private boolean byNumbers;
        private boolean drawsWinds;
        private boolean isCalm;
        private boolean isJoyful;
        private int lostDeed;

        Days(Chart chart, Log log) {
            this.chart = chart;
            this.log = log;
        }

        void asTold() {
            trial.take(log);
            byNumbers = true;
            drawsWinds = false;
            isCalm = false;
            isJoyful = false;
            lostDeed = NONE;
        }

        void asItGoes() {
            asTold();
            byNumbers = false;
        }

        void byChance(long drawn) {
            asTold();
            drawsWinds = true;
            trial.drawn = drawn;
        }

        void otherwise(int what, int deed) {
            isCalm = what == 1;
            lostDeed = what == 2 ? deed : NONE;
            isJoyful = what == 3;
            if (what == 4 || what == 5) {
                trial.copyDown = what == 4;
            }
        }

        int firstAdriftOf(int n) {
            int before = trial.adrift;
            for (int night = 1; night <= n; night++) {
                pass(trial);
                if (trial.adrift > before) {
                    return night;
                }
            }
            return REFUSED;
        }

        int adriftOf(int n) {
            int before = trial.adrift;
            for (int night = 0; night < n; night++) {
                pass(trial);
            }
            return trial.adrift - before;
        }

        void pass(Log on) {
            for (int deed = 0; deed < chart.deeds && deed < MAX_DEEDS; deed++) {
                if (chart.deedDate[deed] == on.date && deed != lostDeed) {
                    on.remember(chart.deedBay[deed], isJoyful ? MAX_JOY : chart.deedJoy[deed]);
                }
            }
            if (on.heads != NONE && on.arrives <= on.date) {
                on.lieIn(on.heads);
            }
            int gale = drawsWinds ? on.draw() % 10 : isCalm ? 0 : chart.galeOf(on.date);
            if (on.heads != NONE) {
                on.atSea++;
            } else if (on.lies != NONE && on.copyDown) {
                lieByCopy(on);
            } else if (on.lies != NONE) {
                lieByAnchor(on, gale);
            }
            on.date++;
        }

        private void lieByCopy(Log on) {
            boolean held = byNumbers ? on.draw() % 100 < chart.trust : chart.trust >= 50;
            if (held) {
                on.held++;
            } else {
                on.adrift++;
            }
        }

        private void lieByAnchor(Log on, int gale) {
            scene.recall(on, on.lies);
            scene.set(on.date, gale, 1);
            chart.laws.feel(scene);
            if (chart.laws.grips(scene)) {
                on.held++;
                on.remember(on.lies, chart.laws.gainOf(scene));
            } else {
                on.adrift++;
                on.drag(on.lies);
            }
        }
    }

    /** What is foreseen of a bay on a date, nights changing nothing. */
    private static final class Foresight {
        private final Chart chart;
        private final Log log;
        private final Scene scene = new Scene();
        private final int[] nights = new int[MAX_BAYS];
        private final int[] rests = new int[MAX_BAYS * MAX_BAYS];

        Foresight(Chart chart, Log log) {
            this.chart = chart;
            this.log = log;
        }

        int moodOf(int bay, int date) {
            scene.recall(log, bay);
            addDeeds(bay, date);
            chart.laws.feel(scene);
            return scene.mood;
        }

        boolean sees(int bay, int date) {
            scene.recall(log, bay);
            addDeeds(bay, date);
            chart.laws.feel(scene);
            return chart.laws.grips(scene);
        }

        boolean seesWithKindness(int bay, int date, int joy) {
            scene.recall(log, bay);
            scene.add(joy, log.date);
            addDeeds(bay, date);
            chart.laws.feel(scene);
            return chart.laws.grips(scene);
        }

        /** By the text alone, one deed having been of another joy. */
        boolean seesFromText(int bay, int date, int changed, int joy) {
            scene.forget();
            for (int deed = 0; deed < chart.deeds && deed < MAX_DEEDS; deed++) {
                if (chart.deedBay[deed] == bay && chart.deedDate[deed] <= date) {
                    scene.add(deed == changed ? joy : chart.deedJoy[deed], chart.deedDate[deed]);
                }
            }
            scene.set(date, chart.galeOf(date), 0);
            chart.laws.feel(scene);
            return chart.laws.grips(scene);
        }

        /** The deeds to come until then, and the night itself. */
        private void addDeeds(int bay, int date) {
            for (int deed = 0; deed < chart.deeds && deed < MAX_DEEDS; deed++) {
                int when = chart.deedDate[deed];
                if (chart.deedBay[deed] == bay && when >= log.date && when <= date) {
                    scene.add(chart.deedJoy[deed], when);
                }
            }
            scene.set(date, chart.galeOf(date), 0);
        }

        void countNights(int n) {
            for (int bay = 0; bay < chart.bays && bay < MAX_BAYS; bay++) {
                nights[bay] = 0;
                for (int night = 0; night < n; night++) {
                    if (sees(bay, log.date + night)) {
                        nights[bay]++;
                    }
                }
            }
        }

        /** By the nights counted last; how many there are. */
        int findRests() {
            int found = 0;
            for (int first = 0; first < chart.bays && first < MAX_BAYS; first++) {
                for (int second = 0; second < chart.bays && second < MAX_BAYS; second++) {
                    if (isBestBeside(first, second) && isBestBeside(second, first) && found < rests.length) {
                        rests[found] = 10 * first + second;
                        found++;
                    }
                }
            }
            return found;
        }

        private boolean isBestBeside(int own, int other) {
            for (int bay = 0; bay < chart.bays && bay < MAX_BAYS; bay++) {
                if (shareOf(bay, other) > shareOf(own, other)) {
                    return false;
                }
            }
            return true;
        }

        private int shareOf(int own, int other) {
            if (own < 0 || own >= MAX_BAYS) {
                return 0;
            }
            return own == other ? nights[own] / 2 : nights[own];
        }
    }

    /** Where the ship can come to. */
    private static final class Ways {
        private static final int NOWHERE = 1000;
        private static final int UNSEEN = 0;
        private static final int HOLDS = 1;
        private static final int DRAGS = 2;

        private final Chart chart;
        private final Log log;
        private final Foresight foresight;
        private final int[] dates = new int[MAX_BAYS];
        private final int[] lanes = new int[MAX_BAYS];
        private final int[] mornings = new int[MAX_BAYS * (MAX_NIGHTS + 1)];
        private final int[] seen = new int[MAX_BAYS * (MAX_NIGHTS + 1)];

        Ways(Chart chart, Log log, Foresight foresight) {
            this.chart = chart;
            this.log = log;
            this.foresight = foresight;
        }

        /** The earliest date of each bay (NONE: never) and the fewest lanes by then. */
        void plan() {
            for (int i = 0; i < mornings.length; i++) {
                mornings[i] = NOWHERE;
                seen[i] = UNSEEN;
            }
            for (int bay = 0; bay < MAX_BAYS; bay++) {
                dates[bay] = NONE;
                lanes[bay] = NOWHERE;
            }
            int first = log.heads == NONE ? 0 : Math.max(0, log.arrives - log.date);
            reach(startBay(), first, 0);
            wake(startBay(), first, 0);
            for (int day = first; day <= MAX_NIGHTS; day++) {
                for (int bay = 0; bay < chart.bays && bay < MAX_BAYS; bay++) {
                    if (mornings[day * MAX_BAYS + bay] != NOWHERE) {
                        goOn(bay, day);
                    }
                }
            }
        }

        private int startBay() {
            return log.heads != NONE ? log.heads : log.lies;
        }

        private void goOn(int bay, int day) {
            int taken = mornings[day * MAX_BAYS + bay];
            if (holdsAt(bay, day)) {
                wake(bay, day + 1, taken);
            }
            for (int other = 0; other < chart.bays; other++) {
                int length = chart.daysBetween(bay, other);
                if (length > 0 && length <= chart.reach && holdsAt(other, day + length)) {
                    reach(other, day + length, taken + 1);
                    wake(other, day + length + 1, taken + 1);
                }
            }
        }

        private void reach(int bay, int day, int taken) {
            if (bay < 0 || bay >= MAX_BAYS) {
                return;
            }
            int date = log.date + day;
            if (dates[bay] == NONE || date < dates[bay] || date == dates[bay] && taken < lanes[bay]) {
                dates[bay] = date;
                lanes[bay] = taken;
            }
        }

        private void wake(int bay, int day, int taken) {
            if (bay >= 0 && bay < MAX_BAYS && day >= 0 && day <= MAX_NIGHTS) {
                int at = day * MAX_BAYS + bay;
                mornings[at] = Math.min(mornings[at], taken);
            }
        }

        /** Not behind the last day of a way, and asked once a plan. */
        private boolean holdsAt(int bay, int day) {
            if (bay < 0 || bay >= MAX_BAYS || day < 0 || day > MAX_NIGHTS) {
                return false;
            }
            int at = day * MAX_BAYS + bay;
            if (seen[at] == UNSEEN) {
                seen[at] = foresight.sees(bay, log.date + day) ? HOLDS : DRAGS;
            }
            return seen[at] == HOLDS;
        }

        /** How many lanes each bay is off (NONE: no way), however long they are. */
        void countLanes() {
            for (int bay = 0; bay < MAX_BAYS; bay++) {
                lanes[bay] = bay == startBay() ? 0 : NONE;
            }
            for (int far = 0; far < MAX_BAYS; far++) {
                for (int bay = 0; bay < chart.bays && bay < MAX_BAYS; bay++) {
                    if (lanes[bay] == far) {
                        spread(bay, far + 1);
                    }
                }
            }
        }

        private void spread(int bay, int far) {
            for (int other = 0; other < chart.bays && other < MAX_BAYS; other++) {
                if (lanes[other] == NONE && chart.daysBetween(bay, other) > 0) {
                    lanes[other] = far;
                }
            }
        }
    }

    /** What was seen, by the text, of where it held. */
    private static final class Notes {
        private final Chart chart;
        private final Foresight foresight;
        private final int[] bays = new int[MAX_NOTES];
        private final int[] dates = new int[MAX_NOTES];
        private final boolean[] held = new boolean[MAX_NOTES];
        private final int[] strikes = new int[MAX_NOTES];
        private final boolean[] stands = new boolean[MAX_NOTES];
        private int size;
        private int by;

        Notes(Chart chart, Foresight foresight) {
            this.chart = chart;
            this.foresight = foresight;
            by = NONE;
        }

        void clear() {
            size = 0;
            by = NONE;
        }

        int knownBy() {
            return by == NONE ? size : Math.min(by, size);
        }

        int addSight(int bay, int date, boolean is) {
            if (size >= MAX_NOTES) {
                return NONE;
            }
            bays[size] = bay;
            dates[size] = date;
            held[size] = is;
            strikes[size] = NONE;
            size++;
            return size - 1;
        }

        int addStrike(int note) {
            int number = addSight(0, 0, false);
            if (number >= 0 && number < MAX_NOTES) {
                strikes[number] = note;
            }
            return number;
        }

        /** From the last one on: what strikes has been asked ahead of what it strikes. */
        private void strikeOut() {
            int most = Math.min(knownBy(), MAX_NOTES);
            for (int note = 0; note < most; note++) {
                stands[note] = true;
            }
            for (int note = most - 1; note >= 0; note--) {
                int struck = strikes[note];
                if (stands[note] && struck >= 0 && struck < note) {
                    stands[struck] = false;
                }
            }
        }

        /** The joys (bits) that a deed may have been of. */
        int joysOf(int deed) {
            strikeOut();
            int bits = 0;
            for (int joy = 0; joy <= MAX_JOY; joy++) {
                if (agrees(deed, joy)) {
                    bits |= 1 << joy;
                }
            }
            return bits;
        }

        private boolean agrees(int deed, int joy) {
            int most = Math.min(knownBy(), MAX_NOTES);
            for (int note = 0; note < most; note++) {
                if (stands[note] && strikes[note] == NONE
                    && foresight.seesFromText(bays[note], dates[note], deed, joy) != held[note]) {
                    return false;
                }
            }
            return true;
        }

        /** The date that parts these joys most evenly. */
        int tellingDate(int deed, int joys) {
            if (!chart.hasDeed(deed)) {
                return NONE;
            }
            int first = chart.deedDate[deed];
            int best = first;
            int least = MAX_JOY + 2;
            for (int date = first; date < first + 20; date++) {
                int apart = Math.abs(lean(deed, joys, date));
                if (apart < least) {
                    best = date;
                    least = apart;
                }
            }
            return best;
        }

        /** How many more of these joys let the deed's bay hold than not. */
        private int lean(int deed, int joys, int date) {
            int more = 0;
            for (int joy = 0; joy <= MAX_JOY; joy++) {
                if ((joys >> joy & 1) == 1) {
                    more += foresight.seesFromText(chart.deedBay[deed], date, deed, joy) ? 1 : -1;
                }
            }
            return more;
        }
    }
}
