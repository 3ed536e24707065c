import java.util.NoSuchElementException;

/** Promises 6 to 16 and part 2 of the terms: laws, what the anchor has, days that go by. */
final class DaySentences {
    private static final int[] ODD = {-2147483648, -1000, -2, -1, 2147483647};
    private static final String SEA = "bay lagos;bay riga;bay cork;lane lagos riga 2;lane riga cork 5;"
        + "deed lagos 0 3;deed riga 2 1;wind 2;wind 3;wind 1;wind 4;ship lagos;trust 40;";

    private DaySentences() {
    }

    static void test() {
        grammar();
        signs();
        whatTheAnchorHas();
        moodOfABay();
        holding();
        names();
        values();
        errors();
        deedsOfTheDay();
        arriving();
        nightAtSea();
        nightByCopy();
        nightByAnchor();
        nightAdrift();
        mostJoys();
        numbers();
        asItGoes();
        bay();
        lane();
        deed();
        wind();
        law();
        sail();
        kind();
        copy();
        go();
    }

    /** 1: no such BAY, 2: no such what, 0: nothing is thrown. */
    static int thrown(MoodAnchor x, int bay, int what) {
        try {
            x.bay(bay, what);
        } catch (IndexOutOfBoundsException e) {
            return 1;
        } catch (NoSuchElementException e) {
            return 2;
        }
        return 0;
    }

    /** How many of so many nights in a bay the copy held. */
    static int heldByCopy(String settings, int nights) {
        MoodAnchor x = Check.told("bay a;wind 9;" + settings);
        x.copy(true);
        x.go(nights);
        return x.count(9);
    }

    static int heldByHand(long seed, int trust, int nights) {
        long state = seed;
        int held = 0;
        for (int i = 0; i < nights; i++) {
            state = next(state);
            held += state / 65536 % 100 < trust ? 1 : 0;
        }
        return held;
    }

    static long next(long state) {
        return (state * 1103515245L + 12345L) % 2147483648L;
    }

    private static long valueOf(String expression) {
        return Check.told("bay a;law fond " + expression + ";").law(0, 0);
    }

    private static void value(String expression, long want) {
        Check.due(expression, valueOf(expression), want);
    }

    private static void error(String expression) {
        value(expression, Long.MIN_VALUE);
    }

    private static void wrong(String expression, int place) {
        Check.fault("law fond " + expression + ";", 1, 9 + place);
    }

    private static void grammar() {
        Doc.term(12, "E: A { or A }. A: B { and B }. B: not B | C.");
        value("1 or 0 and 0", 1);
        value("0 and 0 or 1", 1);
        value("(1 or 0) and 0", 0);
        value("0 or 0 or 0 or 7", 1);
        value("1 and 2 and 0 and 3", 0);
        value("not 0 and 0", 0);
        value("not 1 or 1", 1);
        value("not (1 and 0)", 1);
        value("not not 5", 1);
        value("not not not 5", 0);
        value("not 1>2", 1);
        value("not 0+1", 0);
        value("0 or not 0", 1);
        wrong("1 or", 4);
        wrong("or 1", 0);
        wrong("1 and and 2", 6);
        wrong("1 and or 2", 6);
        wrong("not", 3);
        wrong("1 not 2", 2);
        wrong("1+not 2", 2);
        wrong("1<not 2", 2);
        wrong("1*not 2", 2);
        value("1+(not 2)", 1);
        Doc.term(12, "C: S [ ( < | <= | = | <> | >= | > ) S ].");
        String[] compares = {"<", "<=", "=", "<>", ">=", ">"};
        int[][] due = {{1, 0, 0}, {1, 1, 0}, {0, 1, 0}, {1, 0, 1}, {0, 1, 1}, {0, 0, 1}};
        for (int i = 0; i < compares.length; i++) {
            value("1" + compares[i] + "2", due[i][0]);
            value("2" + compares[i] + "2", due[i][1]);
            value("3" + compares[i] + "2", due[i][2]);
            wrong("1" + compares[i] + "2<3", 2 + compares[i].length());
            wrong("1=2" + compares[i] + "3", 3);
            wrong("not 1<2+3" + compares[i] + "3", 9);
            wrong(compares[i] + "3", 0);
            value("(1" + compares[i] + "2)<3", 1);
            value("1<2 and 3" + compares[i] + "2", due[i][2]);
        }
        Doc.term(12, "S: T { ( + | - ) T }. T: P { ( * | / ) P }. P: N | NAME | '(' E ')';");
        value("1+2*3", 7);
        value("2*3+1", 7);
        value("(1+2)*3", 9);
        value("10-3-2", 5);
        value("10-(3-2)", 9);
        value("10-3+2", 9);
        value("100/10/5", 2);
        value("100/(10/5)", 50);
        value("7*2/3", 4);
        value("7/2*3", 9);
        value("20-6/2*3", 11);
        value("1+2<4-0*9", 1);
        value("((((((((5))))))))", 5);
        value("(1 or 0)+(2<3)", 2);
        wrong("-1", 0);
        wrong("1+", 2);
        wrong("1*/2", 2);
        wrong("()", 1);
        wrong("(1", 2);
        wrong("1)", 1);
        wrong("(1))", 3);
        wrong("1 2", 2);
        wrong("1(2)", 1);
        wrong("(1)2", 3);
        wrong("", 0);
        Doc.term(12, "N of E 0 .. 9999.");
        value("0", 0);
        value("9999", 9999);
        value("0009999", 9999);
        Check.fault("law fond 10000;", 2, 9);
    }

    private static void signs() {
        Doc.term(12, "NAME: joys last many gale date mood here.");
        value("joys+last*1000+many+gale+date+mood", 99000);
        value("here", 1);
        wrong("fond", 0);
        wrong("joy", 0);
        wrong("a", 0);
        wrong("seed", 0);
        wrong("joys last", 5);
        Doc.term(12, "A = (or > behind <) right behind < or > belongs to it.");
        value("1<=1", 1);
        value("1>=1", 1);
        value("1<>1", 0);
        wrong("1< =1", 3);
        wrong("1> =1", 3);
        wrong("1< >1", 3);
        wrong("1<\n=1", 3);
        wrong("1=<1", 2);
        wrong("1=>1", 2);
        wrong("1==1", 2);
        wrong("1><1", 2);
        wrong("1>>1", 2);
        wrong("1<<1", 2);
        wrong("1<==1", 3);
        wrong("1<>=1", 3);
    }

    private static void whatTheAnchorHas() {
        Doc.term(6, "The anchor has of each BAY JOYS (in sum), MANY (how many times), LAST (how many DAYS ago the "
            + "latest was; 99, if none was or it is longer ago).");
        MoodAnchor x = Check.told("bay a;bay b;bay c;deed b 0 4;deed b 0 2;deed c 1 0;");
        Check.due("JOYS of none", x.bay(1, 0), 0);
        Check.due("MANY of none", x.bay(1, 2), 0);
        Check.due("LAST of none", x.bay(1, 1), 99);
        x.go(1);
        Check.due("JOYS in sum", x.bay(1, 0), 6);
        Check.due("MANY", x.bay(1, 2), 2);
        Check.due("LAST", x.bay(1, 1), 1);
        Check.due("LAST of none", x.bay(2, 1), 99);
        x.go(1);
        Check.due("MANY of JOY 0", x.bay(2, 2), 1);
        Check.due("LAST of JOY 0", x.bay(2, 1), 1);
        x.go(96);
        Check.due("LAST 98", x.bay(1, 1), 98);
        x.go(1);
        Check.due("LAST 99", x.bay(1, 1), 99);
        x.go(1);
        Check.due("LAST 100 ago", x.bay(1, 1), 99);
        x.go(99);
        Check.due("LAST 199 ago", x.bay(1, 1), 99);
        Check.due("LAST of today's kindness", x.kind(1, 0) + x.bay(1, 1), 6);
        MoodAnchor y = Check.told("bay a;law fond last;deed a 3 1;");
        Check.due("foreseen: none was", y.mood(0, 2), 99);
        Check.due("foreseen: today", y.mood(0, 3), 0);
        Check.due("foreseen: 96 ago", y.mood(0, 99), 96);
        MoodAnchor z = Check.told("bay a;law fond last+1;deed a 0 1;");
        Check.due("foreseen: 98 ago", z.mood(0, 98), 99);
        Check.due("foreseen: 99 ago", z.mood(0, 99), 100);
        z.go(1);
        z.copy(true);
        z.go(98);
        Check.due("LAST 99 and one", z.law(0, 0), 100);
        z.go(50);
        Check.due("LAST stays 99", z.law(0, 0), 100);
    }

    private static void moodOfABay() {
        Doc.term(10, "MOOD of a BAY on a DATE: E of fond (0 .. 100; 10 times JOYS less LAST, 0 at least, 100 at most, "
            + "without, with an ERROR).");
        int[][] due = {{0, 0}, {1, 1}, {99, 99}, {100, 100}, {101, 100}, {9999, 100}};
        for (int[] pair : due) {
            Check.due("law fond " + pair[0], Check.told("bay a;law fond " + pair[0] + ";").mood(0, 0), pair[1]);
        }
        Check.due("law fond -1", Check.told("bay a;law fond 0-1;").mood(0, 0), 0);
        Check.due("far below 0", Check.told("bay a;law fond 0-9999*9999*999;").mood(0, 0), 0);
        Check.due("far above 100", Check.told("bay a;law fond 9999*9999*9999;").mood(0, 0), 100);
        Check.due("beyond an int", Check.told("bay a;law fond 4096*4096*256;").mood(0, 0), 100);
        String[] without = {"", "law fond 1/0;", "law fond 9999*9999*9999*9999;"};
        for (String law : without) {
            MoodAnchor x = Check.told("bay a;bay b;bay c;deed a 0 2;deed b 0 9;deed b 0 1;deed c 0 9;deed c 0 2;" + law);
            Check.due("10 times JOYS", x.mood(0, 0), 20);
            Check.due("less LAST", x.mood(0, 3), 17);
            Check.due("1", x.mood(0, 19), 1);
            Check.due("0", x.mood(0, 20), 0);
            Check.due("0 at least", x.mood(0, 21), 0);
            Check.due("100", x.mood(1, 0), 100);
            Check.due("99", x.mood(1, 1), 99);
            Check.due("100 at most", x.mood(2, 0), 100);
            Check.due("100 at most", x.mood(2, 9), 100);
            Check.due("100", x.mood(2, 10), 100);
            Check.due("99", x.mood(2, 11), 99);
        }
        Check.due("none was: less 99", Check.told("bay a;").mood(0, 0), 0);
        MoodAnchor part = Check.told("bay a;deed a 1 3;law fond 5/many;");
        Check.due("an ERROR on one DATE", part.mood(0, 0), 0);
        Check.due("none on another", part.mood(0, 1), 5);
    }

    private static void holding() {
        Doc.term(11, "It HOLDS, if E of hold isn't 0 (MOOD is 10 times GALE at least, without, with an ERROR; "
            + "GALE: the WIND of the DATE).");
        int[][] due = {{0, 0}, {1, 1}, {9999, 1}};
        for (int[] pair : due) {
            Check.due("law hold " + pair[0], Check.told("bay a;wind 9;law hold " + pair[0] + ";").holds(0, 0), pair[1]);
        }
        Check.due("law hold -1", Check.told("bay a;wind 9;law hold 0-1;").holds(0, 0), 1);
        Check.due("law hold 2 to the 32", Check.told("bay a;wind 9;law hold 4096*4096*256;").holds(0, 0), 1);
        Check.due("law hold 0, no WIND", Check.told("bay a;law hold 0;").holds(0, 0), 0);
        for (String law : new String[] {"", "law hold 1/0;", "law hold joys or 1/0;"}) {
            MoodAnchor x = Check.told("bay a;law fond 30;wind 3;wind 2;wind 4;wind 0;" + law);
            Check.due("as much", x.holds(0, 0), 1);
            Check.due("more", x.holds(0, 1), 1);
            Check.due("less", x.holds(0, 2), 0);
            Check.due("no WIND", x.holds(0, 3), 1);
            Check.due("behind those told", x.holds(0, 4), 1);
            MoodAnchor y = Check.told("bay a;law fond 29;wind 3;" + law);
            Check.due("one less", y.holds(0, 0), 0);
            Check.due("MOOD 0, no WIND", Check.told("bay a;" + law).holds(0, 0), 1);
            Check.due("MOOD 0, WIND 1", Check.told("bay a;wind 1;" + law).holds(0, 0), 0);
            Check.due("MOOD 90, WIND 9", Check.told("bay a;wind 9;law fond 90;" + law).holds(0, 0), 1);
            Check.due("MOOD 89, WIND 9", Check.told("bay a;wind 9;law fond 89;" + law).holds(0, 0), 0);
        }
    }

    private static void names() {
        Doc.term(12, "NAMES: joys, last, many: of the BAY; gale; date; mood: MOOD (of fond 0); here: 1, if the ship lies "
            + "there, else 0.");
        MoodAnchor x = Check.told("bay a;bay b;lane a b 2;deed a 0 5;deed b 1 7;wind 4;wind 2;wind 6;"
            + "law fond joys*100+last;law hold many*100+gale*10+date;law gain here*1000+mood;");
        x.go(2);
        Check.due("joys and last of a", x.law(0, 0), (5 + 9 + 9) * 100 + 1);
        Check.due("joys and last of b", x.law(0, 1), 701);
        Check.due("many, gale, date of b", x.law(1, 1), 100 + 60 + 2);
        Check.due("here, mood at b", x.law(2, 1), 100);
        Check.due("here, mood at a", x.law(2, 0), 1100);
        x.sail(1);
        Check.due("at sea it lies nowhere", x.law(2, 0) + x.law(2, 1), 200);
        Check.due("mood in fond", Check.told("bay a;law fond 7+mood;").law(0, 0), 7);
        Check.due("mood in fond", Check.told("bay a;law fond 7+mood;").mood(0, 0), 7);
        Check.due("mood in fond, asked twice", Check.told("bay a;law fond 7+mood;law hold mood=7;").law(1, 0), 1);
        MoodAnchor asked = Check.told("bay a;law fond 7+mood;law hold mood=7;law gain 9-mood;");
        for (int i = 0; i < 3; i++) {
            Check.due("mood(0, 0) again", asked.mood(0, 0), 7);
            Check.due("holds(0, 0) again", asked.holds(0, 0), 1);
            Check.due("law(0, 0) again", asked.law(0, 0), 7);
            Check.due("law(1, 0) again", asked.law(1, 0), 1);
            Check.due("law(2, 0) again", asked.law(2, 0), 2);
        }
        asked.go(4);
        Check.due("by nights", asked.count(9) * 10 + asked.bay(0, 0), 48);
        Check.due("mood in hold is 100 at most", Check.told("bay a;law fond 700;law hold mood;").law(1, 0), 100);
        Check.due("mood in hold is 0 at least", Check.told("bay a;law fond 0-7;law hold mood;").law(1, 0), 0);
        Check.due("mood without fond", Check.told("bay a;law hold mood;").law(1, 0), 0);
    }

    private static void values() {
        Doc.term(12, "VALUES are longs; comparisons, and, or, not are 1 or 0 (what isn't 0 is as 1, both sides are worked "
            + "out), / is cut towards 0;");
        value("9999*9999*9999", 999700029999L);
        value("0-9999*9999*9999", -999700029999L);
        value("4096*4096*256", 4294967296L);
        value("4096*4096*256 and 1", 1);
        value("not 4096*4096*256", 0);
        value("4096*4096*256>1", 1);
        value("7 and 9", 1);
        value("7 and 0", 0);
        value("(0-7) and (0-9)", 1);
        value("0 or 9", 1);
        value("0 or (0-9)", 1);
        value("0 or 0", 0);
        value("not 9", 0);
        value("not (0-9)", 0);
        value("not 0", 1);
        value("(5>3)+(5>3)", 2);
        error("1 or 1/0");
        error("1/0 or 1");
        error("0 and 1/0");
        error("1/0 and 0");
        value("7/2", 3);
        value("(0-7)/2", -3);
        value("7/(0-2)", -3);
        value("(0-7)/(0-2)", 3);
        value("1/2", 0);
        value("(0-1)/2", 0);
        value("0/5", 0);
        value("0-1", -1);
    }

    private static void errors() {
        Doc.term(12, "ERROR: / by 0, a value above 10 to the 12 or below 0 by more than that.");
        error("1/0");
        error("0/0");
        error("1/(2-2)");
        error("0*(1/0)");
        error("not (1/0)");
        error("(1/0)=(1/0)");
        error("1<1/0");
        String million = "(1000*1000)";
        String most = "(1000*1000*1000*1000)";
        value(most, 1000000000000L);
        value("0-" + most, -1000000000000L);
        error(most + "+1");
        error("1+" + most);
        error("0-" + most + "-1");
        error("(0-1)-" + most);
        value(most + "+0", 1000000000000L);
        value(most + "-1+1", 1000000000000L);
        error(most + "+1-1");
        error(most + "+1>0");
        value(million + "*" + million, 1000000000000L);
        value("(0-" + million + ")*" + million, -1000000000000L);
        value("(0-" + million + ")*(0-" + million + ")", 1000000000000L);
        error(million + "*(1000*1000+1)");
        error("(0-" + million + ")*(1000*1000+1)");
        error("(1000*1000+1)*(0-" + million + ")");
        error("(0-" + million + "-1)*(0-" + million + ")");
        value("(1000*1000-1)*(1000*1000+1)", 999999999999L);
        error(most + "*" + most);
        error("(0-" + most + ")*" + most);
        error(most + "*2");
        value(most + "*0", 0);
        value("0*" + most, 0);
        value(most + "*1", 1000000000000L);
        value(most + "/" + most, 1);
        value("(0-" + most + ")/1", -1000000000000L);
        error(most + "+" + most);
        error("0-" + most + "-" + most);
        // What a product that goes round would answer: 2 to the 64 is 0.
        error("(4096*4096*256)*(4096*4096*256)");
        Check.due("by 0 on one DATE", Check.told("bay a;law fond 8/date;").law(0, 0), Long.MIN_VALUE);
        MoodAnchor x = Check.told("bay a;law fond 8/date;");
        x.go(2);
        Check.due("none on another", x.law(0, 0), 4);
    }

    private static void deedsOfTheDay() {
        Doc.term(16, "A DAY: (1) DEEDS of this DATE by numbers: JOYS of the BAY are more by JOY, MANY by 1, its latest "
            + "time is now.");
        MoodAnchor x = Check.told("bay a;bay b;deed b 2 5;deed b 0 3;deed b 0 0;deed b 99 9;law hold 0;");
        int[][] due = {{1, 3, 2, 1}, {1, 3, 2, 2}, {1, 8, 3, 1}, {96, 8, 3, 97}, {1, 17, 4, 1}, {1, 17, 4, 2}};
        for (int[] row : due) {
            x.go(row[0]);
            Check.due("JOYS", x.bay(1, 0), row[1]);
            Check.due("MANY", x.bay(1, 2), row[2]);
            Check.due("LAST", x.bay(1, 1), row[3]);
        }
        MoodAnchor y = Check.told("bay a;bay b;lane a b 9;deed a 3 4;");
        y.sail(1);
        y.go(4);
        Check.due("with the ship at sea, too", y.bay(0, 0), 4);
        MoodAnchor z = Check.told("bay a;deed a 3 4;trust 0;");
        z.copy(true);
        z.go(4);
        Check.due("with the COPY down, too", z.bay(0, 0), 4);
        MoodAnchor first = Check.told("bay a;deed a 0 3;wind 3;");
        first.go(1);
        Check.due("ahead of the night", first.count(9), 1);
    }

    private static void arriving() {
        Doc.term(16, "(2) a ship at sea that ARRIVES on this DATE lies there.");
        MoodAnchor x = Check.told("bay a;bay b;lane a b 2;wind 0;wind 0;wind 1;");
        x.sail(1);
        x.go(2);
        Check.due("in the morning it is at sea", x.count(6), -2);
        Check.due("two nights", x.count(11), 2);
        x.go(1);
        Check.due("it lies there", x.count(6), 1);
        Check.due("bay(1, 3)", x.bay(1, 3), 1);
        Check.due("it sails to none", x.count(7), -1);
        Check.due("it arrives never", x.count(8), -1);
        Check.due("that night isn't at sea", x.count(11), 2);
        Check.due("but ADRIFT", x.count(10), 1);
        MoodAnchor deed = Check.told("bay a;bay b;lane a b 1;wind 0;wind 1;deed b 1 1;");
        deed.sail(1);
        deed.go(2);
        Check.due("held by that day's DEED", deed.count(9), 1);
        Check.due("here 1 in that night", hereOnArrival(), 1);
    }

    private static int hereOnArrival() {
        MoodAnchor x = Check.told("bay a;bay b;lane a b 1;law hold here;");
        x.sail(1);
        x.go(2);
        return x.count(9);
    }

    private static void nightAtSea() {
        Doc.term(16, "(3) the night: at sea nothing;");
        MoodAnchor x = Check.told("bay a;bay b;lane a b 9;wind 9;seed 3;trust 50;");
        MoodAnchor still = Check.told("bay a;bay b;lane a b 9;wind 9;seed 3;trust 50;");
        x.sail(1);
        x.copy(true);
        x.go(9);
        Check.due("HELD, ADRIFT", x.count(9) + x.count(10), 0);
        Check.due("at sea", x.count(11), 9);
        Check.due("nothing is remembered", x.bay(0, 0) + x.bay(1, 0) + x.bay(0, 2) + x.bay(1, 2), 0);
        still.copy(true);
        for (int i = 1; i <= 30; i++) {
            x.go(1);
            still.go(1);
            Check.due("no number was drawn at sea", x.count(9), still.count(9));
        }
        MoodAnchor none = Check.told("wind 9;");
        none.go(5);
        Check.due("without BAYS no night is at sea", none.count(11), 0);
        Check.due("nor ADRIFT", none.count(10), 0);
    }

    private static void nightByCopy() {
        Doc.term(16, "in a BAY with the COPY down: a number modulo 100: below TRUST it HELD, else it was ADRIFT (the "
            + "anchor remembers nothing);");
        for (int seed : new int[] {0, 5, 77, 99999}) {
            int number = (int) (next(seed) / 65536 % 100);
            Check.due("as much as TRUST", heldByCopy("seed " + seed + ";trust " + number + ";", 1), 0);
            Check.due("below TRUST", heldByCopy("seed " + seed + ";trust " + (number + 1) + ";", 1), 1);
        }
        Check.due("TRUST 0", heldByCopy("trust 0;", 99), 0);
        Check.due("TRUST 100", heldByCopy("trust 100;", 99), 99);
        MoodAnchor x = Check.told("bay a;deed a 0 5;trust 50;seed 4;law gain 9;");
        x.copy(true);
        x.go(60);
        Check.due("HELD and ADRIFT", x.count(9) + x.count(10), 60);
        Check.due("HELD", x.count(9), heldByHand(4, 50, 60));
        Check.due("JOYS", x.bay(0, 0), 5);
        Check.due("MANY", x.bay(0, 2), 1);
        Check.due("LAST", x.bay(0, 1), 60);
        x.copy(false);
        x.go(1);
        Check.due("up again", x.bay(0, 2), 2);
    }

    private static void nightByAnchor() {
        Doc.term(16, "with the anchor: if it HOLDS (as now, here 1), it HELD: JOYS are more by E of gain (0 .. 9; 1 "
            + "without, with an ERROR), MANY by 1, its latest time is now;");
        String[] laws = {"", "law gain 0-1;", "law gain 0;", "law gain 1;", "law gain 9;", "law gain 10;", "law gain 9999;",
            "law gain 1/0;", "law gain 4096*4096*256;", "law gain here*3;", "law gain mood/10;", "law gain joys-1;"};
        int[] gains = {1, 0, 0, 1, 9, 9, 9, 1, 9, 3, 4, 3};
        for (int i = 0; i < laws.length; i++) {
            MoodAnchor x = Check.told("bay a;deed a 0 4;wind 4;" + laws[i]);
            x.go(1);
            Check.due(laws[i] + " HELD", x.count(9), 1);
            Check.due(laws[i] + " JOYS", x.bay(0, 0), 4 + gains[i]);
            Check.due(laws[i] + " MANY", x.bay(0, 2), 2);
        }
        MoodAnchor latest = Check.told("bay a;");
        latest.go(5);
        Check.due("the latest time is of the last night", latest.bay(0, 1), 1);
        MoodAnchor here = Check.told("bay a;wind 5;wind 5;law fond here*50;");
        Check.due("here 0 foreseen", here.holds(0, 0), 0);
        here.go(2);
        Check.due("here 1 by night", here.count(9), 2);
        MoodAnchor now = Check.told("bay a;law hold date=1 and gale=7;wind 0;wind 7;wind 7;");
        now.go(3);
        Check.due("by DATE and GALE of now", now.count(9), 1);
        Check.due("the others", now.count(10), 2);
    }

    private static void nightAdrift() {
        Doc.term(16, "else ADRIFT: JOYS are less by 2 (0 at least).");
        for (int joys = 0; joys <= 9; joys++) {
            MoodAnchor x = Check.told("bay a;deed a 0 " + joys + ";law hold 0;");
            x.go(1);
            Check.due("ADRIFT", x.count(10), 1);
            Check.due("JOYS " + joys, x.bay(0, 0), Math.max(0, joys - 2));
            Check.due("MANY", x.bay(0, 2), 1);
            x.go(1);
            Check.due("JOYS " + joys + " twice", x.bay(0, 0), Math.max(0, joys - 4));
            Check.due("LAST", x.bay(0, 1), 2);
        }
        MoodAnchor other = Check.told("bay a;bay b;deed b 0 5;law hold 0;");
        other.go(2);
        Check.due("another BAY's stay", other.bay(1, 0), 5);
        Doc.term(16, "Then it is the next DATE.");
        Check.due("count(5)", other.count(5), 2);
        Check.due("go(1)", other.go(1), 3);
        Check.due("count(5)", other.count(5), 3);
    }

    private static void mostJoys() {
        Doc.term(14, "JOYS are 9999 at most.");
        MoodAnchor x = Check.told("bay a;law gain 9;");
        for (int i = 0; i < 11; i++) {
            x.go(99);
        }
        Check.due("1089 nights", x.bay(0, 0), 9801);
        x.go(21);
        Check.due("1110 nights", x.bay(0, 0), 9990);
        Check.due("kind 8", x.kind(0, 8), 9998);
        Check.due("kind 1", x.kind(0, 1), 9999);
        Check.due("kind 1 more", x.kind(0, 1), 9999);
        Check.due("kind 9 more", x.kind(0, 9), 9999);
        x.undo();
        x.undo();
        x.undo();
        Check.due("undone", x.bay(0, 0), 9998);
        x.go(1);
        Check.due("by night", x.bay(0, 0), 9999);
        x.go(9);
        Check.due("by nights", x.bay(0, 0), 9999);
        Check.due("MANY goes on", x.bay(0, 2), 1110 + 1 + 10);
        Check.due("law of joys", Check.told("bay a;law fond joys;").law(0, 0), 0);
        MoodAnchor y = Check.told("bay a;law gain 9;law hold date<1109 or joys=9999;law fond joys-9989;");
        for (int i = 0; i < 11; i++) {
            y.go(99);
        }
        y.go(20);
        Check.due("9981", y.bay(0, 0), 9981);
        y.kind(0, 9);
        Check.due("9990", y.law(0, 0), 1);
        Check.due("kindness up to 9999", y.kindness(0, 1109), 9);
        y.kind(0, 7);
        Check.due("kindness up to 9999 and more", y.kindness(0, 1109), 2);
        y.kind(0, 9);
        Check.due("foreseen with one more", y.kindness(0, 1109), 0);
    }

    private static void numbers() {
        Doc.term(16, "Numbers are the last one (at first the seed) times 1103515245 and 12345, without what is above 31 "
            + "bits, by 65536.");
        for (int seed : new int[] {0, 1, 2, 12345, 65535, 65536, 99999}) {
            MoodAnchor x = Check.told("bay a;trust 37;seed " + seed + ";");
            x.copy(true);
            for (int night = 1; night <= 70; night++) {
                x.go(1);
                Check.due("seed " + seed + ", night " + night, x.count(9), heldByHand(seed, 37, night));
            }
        }
    }

    private static void asItGoes() {
        Doc.term(17, "AS IT GOES: the COPY holds, if TRUST is 50 at least (no numbers).");
        int[][] due = {{0, 1}, {49, 1}, {50, -2}, {51, -2}, {100, -2}};
        for (int[] pair : due) {
            MoodAnchor x = Check.told("bay a;wind 9;trust " + pair[0] + ";seed 7;");
            x.copy(true);
            Check.due("TRUST " + pair[0], x.firstAdrift(99), pair[1]);
            Check.due("TRUST " + pair[0], x.tried(0, 0, 60), pair[1] == 1 ? 60 : 0);
            x.go(40);
            Check.due("no number was drawn", x.count(9), heldByHand(7, pair[0], 40));
        }
    }

    private static void bay() {
        Doc.promise(6, "Of a BAY now, what 0 JOYS, 1 LAST, 2 MANY, 3 whether the ship lies there (1, 0).");
        MoodAnchor x = Check.told("bay a;bay b;lane a b 1;deed b 0 4;deed b 0 2;");
        Check.due("today's DEEDS aren't yet", x.bay(1, 0) + x.bay(1, 2), 0);
        Check.due("LAST", x.bay(1, 1), 99);
        Check.due("lies", x.bay(0, 3), 1);
        Check.due("lies not", x.bay(1, 3), 0);
        x.sail(1);
        Check.due("at sea", x.bay(0, 3) + x.bay(1, 3), 0);
        x.go(1);
        Check.due("at sea in the morning of its arrival", x.bay(0, 3) + x.bay(1, 3), 0);
        Check.due("JOYS", x.bay(1, 0), 6);
        Check.due("LAST", x.bay(1, 1), 1);
        Check.due("MANY", x.bay(1, 2), 2);
        x.go(1);
        Check.due("lies", x.bay(1, 3), 1);
        Doc.promise(6, "IndexOutOfBoundsException: no such BAY.");
        Check.due("bay(2, 0)", thrown(x, 2, 0), 1);
        Check.due("bay(8, 0)", thrown(x, 8, 0), 1);
        Check.due("bay(2, 9)", thrown(x, 2, 9), 1);
        Check.due("bay(-1, -1)", thrown(x, -1, -1), 1);
        for (int odd : ODD) {
            Check.due("bay(" + odd + ", 0)", thrown(x, odd, 0), 1);
        }
        Check.due("without BAYS", thrown(new MoodAnchor(), 0, 0), 1);
        Doc.promise(6, "NoSuchElementException: no such what.");
        Check.due("bay(0, 4)", thrown(x, 0, 4), 2);
        Check.due("bay(1, 5)", thrown(x, 1, 5), 2);
        for (int odd : ODD) {
            Check.due("bay(0, " + odd + ")", thrown(x, 0, odd), 2);
        }
        Check.due("nothing thrown", thrown(x, 0, 0) + thrown(x, 1, 3), 0);
    }

    private static void lane() {
        MoodAnchor x = Check.told(SEA);
        Doc.promise(7, "DAYS of the LANE of two BAYS;");
        Check.due("lane(0, 1)", x.lane(0, 1), 2);
        Check.due("lane(1, 0)", x.lane(1, 0), 2);
        Check.due("lane(2, 1)", x.lane(2, 1), 5);
        Check.due("lane(1, 2)", x.lane(1, 2), 5);
        Doc.promise(7, "0: there is none;");
        Check.due("lane(0, 2)", x.lane(0, 2), 0);
        Check.due("lane(2, 0)", x.lane(2, 0), 0);
        Check.due("lane(1, 1)", x.lane(1, 1), 0);
        Doc.promise(7, "NONE: no such ones.");
        Check.due("lane(0, 3)", x.lane(0, 3), -1);
        Check.due("lane(3, 0)", x.lane(3, 0), -1);
        Check.due("lane(3, 3)", x.lane(3, 3), -1);
        for (int odd : ODD) {
            Check.due("lane(0, " + odd + ")", x.lane(0, odd), -1);
            Check.due("lane(" + odd + ", 0)", x.lane(odd, 0), -1);
        }
    }

    private static void deed() {
        MoodAnchor x = Check.told(SEA);
        Doc.promise(8, "Of a DEED, what 0 the BAY, 1 the DATE, 2 JOY.");
        int[][] due = {{0, 0, 3}, {1, 2, 1}};
        for (int deed = 0; deed < 2; deed++) {
            for (int what = 0; what < 3; what++) {
                Check.due("deed(" + deed + ", " + what + ")", x.deed(deed, what), due[deed][what]);
            }
        }
        x.go(5);
        Check.due("a DEED gone by", x.deed(1, 2), 1);
        Doc.promise(8, "NONE: no such ones.");
        Check.due("deed(2, 0)", x.deed(2, 0), -1);
        Check.due("deed(12, 0)", x.deed(12, 0), -1);
        Check.due("deed(0, 3)", x.deed(0, 3), -1);
        x.kind(0, 5);
        Check.due("a kindness is none", x.deed(2, 0), -1);
        for (int odd : ODD) {
            Check.due("deed(" + odd + ", 0)", x.deed(odd, 0), -1);
            Check.due("deed(0, " + odd + ")", x.deed(0, odd), -1);
        }
    }

    private static void wind() {
        MoodAnchor x = Check.told(SEA);
        Doc.promise(9, "WIND of a DATE 0 .. 9999;");
        int[] due = {2, 3, 1, 4, 0, 0};
        for (int date = 0; date < due.length; date++) {
            Check.due("wind(" + date + ")", x.wind(date), due[date]);
        }
        for (int date : new int[] {19, 20, 21, 99, 100, 9998, 9999}) {
            Check.due("wind(" + date + ")", x.wind(date), 0);
        }
        x.go(3);
        Check.due("a WIND gone by", x.wind(0), 2);
        Doc.promise(9, "NONE: no such one.");
        Check.due("wind(10000)", x.wind(10000), -1);
        for (int odd : ODD) {
            Check.due("wind(" + odd + ")", x.wind(odd), -1);
        }
    }

    private static void law() {
        Doc.promise(12, "The law's E (what 0 fond, 1 hold, 2 gain) of a BAY for the DATE of now by what the anchor has "
            + "(DEEDS of today aren't yet; here as it is).");
        MoodAnchor x = Check.told("bay a;bay b;lane a b 3;deed a 0 5;wind 4;wind 1;"
            + "law fond joys*200+here*7+gale;law hold mood*1000+date;law gain last+many-200;");
        Check.due("law(0, 0)", x.law(0, 0), 11);
        Check.due("law(0, 1): not here", x.law(0, 1), 4);
        Check.due("law(1, 0)", x.law(1, 0), 11000);
        Check.due("law(2, 0): what is below 0, too", x.law(2, 0), -101);
        x.go(1);
        Check.due("law(0, 0): what is beyond 100, too", x.law(0, 0), 5 * 200 + 7 + 1);
        Check.due("law(1, 0): of a MOOD 100 at most", x.law(1, 0), 100001);
        Check.due("law(2, 0)", x.law(2, 0), 1 + 2 - 200);
        x.sail(1);
        Check.due("law(0, 0): at sea", x.law(0, 0), 1001);
        Check.due("gain beyond 9", Check.told("bay a;law gain 10;").law(2, 0), 10);
        Doc.promise(12, "Long.MIN_VALUE: an ERROR, no such law, no such ones.");
        Check.due("an ERROR", Check.told("bay a;law hold 1/0;").law(1, 0), Long.MIN_VALUE);
        MoodAnchor y = Check.told("bay a;law hold 3;");
        Check.due("no such law", y.law(0, 0), Long.MIN_VALUE);
        Check.due("no such law", y.law(2, 0), Long.MIN_VALUE);
        Check.due("such a law", y.law(1, 0), 3);
        Check.due("law(3, 0)", x.law(3, 0), Long.MIN_VALUE);
        Check.due("law(0, 2)", x.law(0, 2), Long.MIN_VALUE);
        Check.due("law(0, 8)", x.law(0, 8), Long.MIN_VALUE);
        for (int odd : ODD) {
            Check.due("law(" + odd + ", 0)", x.law(odd, 0), Long.MIN_VALUE);
            Check.due("law(0, " + odd + ")", x.law(0, odd), Long.MIN_VALUE);
        }
    }

    private static void sail() {
        Doc.promise(13, "The ship sails to a BAY now: the DATE on which it ARRIVES;");
        MoodAnchor x = Check.told(SEA);
        Check.due("sail(1)", x.sail(1), 2);
        Check.due("at sea", x.count(6), -2);
        Check.due("to", x.count(7), 1);
        Check.due("when", x.count(8), 2);
        x.go(3);
        Check.due("sail(2)", x.sail(2), 8);
        MoodAnchor nine = Check.told("bay a;bay b;lane a b 9;");
        Check.due("DAYS 9", nine.sail(1), 9);
        Check.due("undo", nine.undo(), 0);
        Check.due("again", nine.sail(1), 9);
        Check.due("a LANE longer than REACH", Check.told("bay a;bay b;lane a b 9;reach 1;").sail(1), 9);
        Doc.promise(13, "-2: there is no LANE, it is at sea;");
        MoodAnchor y = Check.told(SEA);
        Check.due("no LANE", y.sail(2), -2);
        Check.due("it lies", y.count(6), 0);
        y.sail(1);
        for (int bay = 0; bay < 3; bay++) {
            Check.due("at sea to " + bay, y.sail(bay), -2);
        }
        Check.due("it sails as it did", y.count(7) * 10 + y.count(8), 12);
        y.go(2);
        Check.due("at sea in the morning of its arrival", y.sail(2), -2);
        y.go(1);
        Check.due("it lies", y.sail(2), 8);
        Doc.promise(13, "NONE: no such BAY, it lies there.");
        MoodAnchor z = Check.told(SEA);
        Check.due("it lies there", z.sail(0), -1);
        Check.due("sail(3)", z.sail(3), -1);
        Check.due("sail(8)", z.sail(8), -1);
        for (int odd : ODD) {
            Check.due("sail(" + odd + ")", z.sail(odd), -1);
        }
        Check.due("without BAYS", new MoodAnchor().sail(0), -1);
        Check.due("nothing to undo", z.count(15), 0);
        z.sail(1);
        Check.due("no such BAY at sea", z.sail(3), -1);
        z.go(3);
        Check.due("where it came to lie", z.sail(1), -1);
    }

    private static void kind() {
        Doc.promise(14, "A DEED of JOY 0 .. 9 at a BAY now, behind which it remembers: JOYS then;");
        MoodAnchor x = Check.told(SEA);
        Check.due("kind(2, 9)", x.kind(2, 9), 9);
        Check.due("kind(2, 0)", x.kind(2, 0), 9);
        Check.due("MANY", x.bay(2, 2), 2);
        Check.due("LAST", x.bay(2, 1), 0);
        Check.due("elsewhere none", x.bay(1, 2), 0);
        Check.due("kind(0, 1)", x.kind(0, 1), 1);
        Check.due("no DEED more is told", x.count(2), 2);
        Check.due("foreseen", x.mood(2, 4), 86);
        x.sail(1);
        Check.due("at sea, too", x.kind(1, 3), 3);
        Doc.promise(14, "NONE: no such ones.");
        Check.due("kind(3, 1)", x.kind(3, 1), -1);
        Check.due("kind(8, 1)", x.kind(8, 1), -1);
        Check.due("kind(0, 10)", x.kind(0, 10), -1);
        for (int odd : ODD) {
            Check.due("kind(" + odd + ", 1)", x.kind(odd, 1), -1);
            Check.due("kind(0, " + odd + ")", x.kind(0, odd), -1);
        }
        Check.due("nothing was done", x.bay(0, 0) * 10 + x.count(15), 15);
    }

    private static void copy() {
        Doc.promise(15, "The COPY is down from now on, or up: true;");
        MoodAnchor x = Check.told(SEA);
        Check.due("copy(true)", x.copy(true), true);
        Check.due("down", x.count(12), 1);
        x.go(3);
        Check.due("from now on", x.count(12), 1);
        Check.due("copy(false)", x.copy(false), true);
        Check.due("up", x.count(12), 0);
        Doc.promise(15, "false: it is so.");
        Check.due("copy(false)", x.copy(false), false);
        x.copy(true);
        Check.due("copy(true)", x.copy(true), false);
        Check.due("down", x.count(12), 1);
        Check.due("once to undo: up and down again", x.count(15), 2);
        Check.due("of a new TEXT", Check.told(SEA).copy(false), false);
    }

    private static void go() {
        Doc.promise(16, "So many nights (0 .. 99) go by: which DATE it is;");
        MoodAnchor x = Check.told("bay a;");
        Check.due("go(0)", x.go(0), 0);
        Check.due("no night", x.count(9), 0);
        Check.due("go(1)", x.go(1), 1);
        Check.due("go(99)", x.go(99), 100);
        Check.due("nights", x.count(9), 100);
        Doc.promise(16, "NONE, and none does: no such number, behind 9900.");
        Check.due("go(100)", x.go(100), -1);
        for (int odd : ODD) {
            Check.due("go(" + odd + ")", x.go(odd), -1);
        }
        Check.due("none went by", x.count(9) * 1000 + x.count(5), 100100);
        for (int i = 0; i < 98; i++) {
            x.go(99);
        }
        Check.due("DATE", x.count(5), 9802);
        Check.due("go(99) to 9901", x.go(99), -1);
        Check.due("none does", x.count(5), 9802);
        Check.due("nor is it a night", x.count(9), 9802);
        Check.due("go(98) to 9900", x.go(98), 9900);
        Check.due("go(1) to 9901", x.go(1), -1);
        Check.due("go(0) on 9900", x.go(0), 9900);
        Check.due("none does", x.count(9), 9900);
        Check.due("mood(0, 9999)", x.mood(0, 9999), 100);
        Check.due("firstAdrift(99)", x.firstAdrift(99), -2);
        Check.due("tried(0, 0, 60)", x.tried(0, 0, 60), 0);
    }
}
