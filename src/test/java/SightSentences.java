/** Promises 10, 11, 17 to 25, 31, 32 and part 3 of the terms but for notes: what would be. */
final class SightSentences {
    private static final int[] ODD = {-2147483648, -1000, -2, -1, 2147483647};
    private static final int[] SEEDS = {0, 1, 77, 65536, 1073741824, 2147483646, 2147483647};

    private SightSentences() {
    }

    static void test() {
        foreseen();
        mood();
        holds();
        firstAdrift();
        wayStart();
        wayOn();
        wayEnd();
        way();
        never();
        kindness();
        winter();
        copies();
        bidsByLanes();
        bids();
        share();
        rests();
        rest();
        byChance();
        chance();
        triedOtherwise();
        tried();
    }

    private static void foreseen() {
        Doc.term(10, "FORESEEN for a BAY on a DATE (not ahead of now): MOOD, HOLDS by what the anchor has now and the DEEDS "
            + "told from now to that DATE, nights changing nothing; here 0.");
        MoodAnchor x = Check.told("bay a;deed a 0 2;deed a 3 4;deed a 5 1;wind 3;law gain 9;");
        Check.due("today's DEEDS, too", x.mood(0, 0), 20);
        Check.due("ahead of the second", x.mood(0, 2), 18);
        Check.due("that DATE's DEEDS, too", x.mood(0, 3), 60);
        Check.due("the day behind", x.mood(0, 4), 59);
        Check.due("all", x.mood(0, 5), 70);
        x.go(1);
        Check.due("ADRIFT that night", x.bay(0, 0), 0);
        Check.due("by what it has now, DEEDS gone by aren't counted again", x.mood(0, 2), 0);
        Check.due("DEEDS to come", x.mood(0, 3), 40);
        Check.due("ahead of now", x.mood(0, 0), -1);
        Check.due("nights change nothing", x.bay(0, 2), 1);
        MoodAnchor y = Check.told("bay a;bay b;law fond here*50+7;deed b 1 3;");
        Check.due("here 0 where it lies", y.mood(0, 0), 7);
        y.go(1);
        Check.due("today's DEED isn't yet had", y.bay(1, 0), 0);
        MoodAnchor many = Check.told("bay a;deed a 0 1;deed a 0 1;deed a 2 1;law fond many*10+date;law hold last;");
        Check.due("MANY", many.mood(0, 1), 21);
        Check.due("MANY", many.mood(0, 2), 32);
        Check.due("LAST 0", many.holds(0, 2), 0);
        Check.due("LAST 1", many.holds(0, 3), 1);
    }

    private static void mood() {
        Doc.promise(10, "FORESEEN for a BAY on a DATE from now to now and 99: MOOD;");
        MoodAnchor x = Check.told("bay a;bay b;deed a 0 9;deed a 0 9;deed b 99 4;");
        Check.due("mood(0, 0)", x.mood(0, 0), 100);
        Check.due("mood(0, 99)", x.mood(0, 99), 81);
        Check.due("mood(1, 99)", x.mood(1, 99), 40);
        x.go(9);
        Check.due("mood(1, 108)", x.mood(1, 108), 31);
        Check.due("mood(1, 9)", x.mood(1, 9), 0);
        Doc.promise(10, "NONE: no such ones.");
        Check.due("mood(1, 8)", x.mood(1, 8), -1);
        Check.due("mood(1, 109)", x.mood(1, 109), -1);
        Check.due("mood(2, 9)", x.mood(2, 9), -1);
        Check.due("mood(8, 9)", x.mood(8, 9), -1);
        for (int odd : ODD) {
            Check.due("mood(0, " + odd + ")", x.mood(0, odd), -1);
            Check.due("mood(" + odd + ", 9)", x.mood(odd, 9), -1);
        }
        MoodAnchor y = Check.told("bay a;");
        Check.due("mood(0, 100)", y.mood(0, 100), -1);
        Check.due("mood(0, -1)", y.mood(0, -1), -1);
    }

    private static void holds() {
        Doc.promise(11, "FORESEEN: 1, if it HOLDS, 0;");
        MoodAnchor x = Check.told("bay a;bay b;deed a 0 3;wind 3;wind 3;law gain 0;");
        Check.due("holds(0, 0)", x.holds(0, 0), 1);
        Check.due("holds(0, 1)", x.holds(0, 1), 0);
        Check.due("holds(1, 0)", x.holds(1, 0), 0);
        Check.due("holds(0, 99)", x.holds(0, 99), 1);
        x.go(1);
        Check.due("holds(0, 100)", x.holds(0, 100), 1);
        Doc.promise(11, "NONE: no such ones (as of mood).");
        Check.due("holds(0, 0)", x.holds(0, 0), -1);
        Check.due("holds(0, 101)", x.holds(0, 101), -1);
        Check.due("holds(2, 1)", x.holds(2, 1), -1);
        Check.due("holds(8, 1)", x.holds(8, 1), -1);
        for (int odd : ODD) {
            Check.due("holds(0, " + odd + ")", x.holds(0, odd), -1);
            Check.due("holds(" + odd + ", 1)", x.holds(odd, 1), -1);
        }
    }

    private static void firstAdrift() {
        Doc.term(17, "FIRST ADRIFT: in how many nights from now on as it goes, n at most (1: the next one).");
        MoodAnchor x = Check.told("bay a;bay b;lane a b 3;wind 0;wind 0;wind 1;wind 9;wind 9;");
        Check.due("nights ahead of it gain", x.firstAdrift(99), 4);
        Check.due("foreseen it would be earlier", x.holds(0, 2), 0);
        Check.due("n 4", x.firstAdrift(4), 4);
        Check.due("n 3", x.firstAdrift(3), -2);
        x.sail(1);
        Check.due("at sea none is", x.firstAdrift(3), -2);
        Check.due("the night of its arrival", x.firstAdrift(9), 4);
        Check.due("nothing went by", x.count(5) + x.count(9) + x.count(10) + x.count(11), 0);
        x.undo();
        x.go(3);
        Check.due("the next one", x.firstAdrift(1), 1);
        Check.due("the next one", x.firstAdrift(99), 1);
        x.go(1);
        Check.due("from now on, not those gone by", x.firstAdrift(99), 1);
        x.go(1);
        Check.due("none any more", x.firstAdrift(99), -2);
        Doc.promise(17, "FIRST ADRIFT (n 1 .. 99);");
        MoodAnchor y = Check.told("bay a;law hold date<>98 and date<>99;");
        Check.due("the 99th", y.firstAdrift(99), 99);
        Check.due("n 1", Check.told("bay a;wind 1;").firstAdrift(1), 1);
        Doc.promise(17, "-2: none;");
        Check.due("n 98", y.firstAdrift(98), -2);
        Check.due("n 1", y.firstAdrift(1), -2);
        Check.due("the 100th", Check.told("bay a;law hold date<>99;").firstAdrift(99), -2);
        Check.due("without BAYS", new MoodAnchor().firstAdrift(1), -2);
        Doc.promise(17, "NONE: no such n.");
        Check.due("n 0", y.firstAdrift(0), -1);
        Check.due("n 100", y.firstAdrift(100), -1);
        for (int odd : ODD) {
            Check.due("n " + odd, y.firstAdrift(odd), -1);
        }
    }

    private static void wayStart() {
        Doc.term(18, "WAY to a BAY: from where the ship lies (at sea: from where it ARRIVES, in the morning of that DATE; it "
            + "may sail on at once):");
        MoodAnchor x = Check.told("bay a;bay b;bay c;lane a b 4;lane b c 3;ship b;");
        Check.due("from b to a", x.way(0, 0), 4);
        Check.due("from b to c", x.way(2, 0), 3);
        x.sail(0);
        Check.due("at sea to a", x.way(0, 0), 4);
        Check.due("on to b", x.way(1, 0), 8);
        Check.due("on to c, a night at b", x.way(2, 0), 12);
        x.go(4);
        Check.due("in the morning of its arrival", x.way(0, 0), 4);
        Check.due("on at once", x.way(1, 0), 8);
        MoodAnchor y = Check.told("bay a;bay b;bay c;lane a b 4;lane b c 3;law hold date>4;");
        y.sail(1);
        y.go(1);
        Check.due("where it arrives it need not hold", y.way(1, 0), 4);
        Check.due("nor to sail on at once", y.way(2, 0), 7);
        MoodAnchor z = Check.told("bay a;bay b;lane a b 2;law hold date>1;");
        Check.due("where it lies it need not hold", z.way(1, 0), 2);
        MoodAnchor moved = Check.told("bay a;bay b;bay c;lane a b 1;lane a c 1;");
        Check.due("from a to c", moved.way(2, 0), 1);
        moved.sail(1);
        moved.go(2);
        Check.due("from b to c by a", moved.way(2, 0), 5);
        Check.due("from b to c by a, LANES", moved.way(2, 1), 2);
        MoodAnchor far = Check.told("bay a;bay b;bay c;lane a b 9;lane b c 1;law hold date=60;");
        far.sail(1);
        Check.due("nor to wait from there", far.way(2, 0), -2);
    }

    private static void wayOn() {
        Doc.term(18, "in the morning it waits for a night in which FORESEEN it HOLDS there, or sails a LANE of REACH at most "
            + "and lies there in the night of the DATE on which it ARRIVES, if FORESEEN it HOLDS there then:");
        String three = "bay a;bay b;bay c;lane a b 2;lane b c 2;";
        MoodAnchor x = Check.told(three + "law hold date<>2;");
        Check.due("waits a night: b on 3", x.way(1, 0), 3);
        Check.due("lies there that night, sails on the morning behind", x.way(2, 0), 6);
        MoodAnchor no = Check.told(three + "law hold date<>2 and date<>0;");
        Check.due("can't wait for a night ADRIFT", no.way(1, 0), -2);
        MoodAnchor once = Check.told(three + "law hold date<>3 and date<>6 and date<>5;");
        Check.due("b on 2", once.way(1, 0), 2);
        Check.due("c on 5 would be ADRIFT, so is b on 3: waits at a, b on 4", once.way(2, 0), 7);
        MoodAnchor wait = Check.told(three + "law hold date<>5;");
        Check.due("waits at b", wait.way(2, 0), 6);
        MoodAnchor there = Check.told("bay a;bay b;lane a b 3;deed a 1 5;wind 0;wind 5;wind 0;wind 1;wind 1;wind 0;");
        Check.due("by FORESEEN of the DATE: b on 5", there.way(1, 0), 5);
        MoodAnchor deeds = Check.told("bay a;bay b;lane a b 3;wind 0;wind 1;wind 1;wind 1;wind 1;wind 1;deed b 4 1;deed a 1 9;");
        Check.due("by DEEDS to come at b", deeds.way(1, 0), 4);
        MoodAnchor here = Check.told("bay a;bay b;lane a b 3;law hold here;");
        Check.due("here 0", here.way(1, 0), -2);
        String reach = "bay a;bay b;bay c;lane a b 5;lane a c 2;lane c b 2;";
        Check.due("REACH 5", Check.told(reach + "reach 5;").way(1, 1), 1);
        Check.due("REACH 4: by c", Check.told(reach + "reach 4;").way(1, 1), 2);
        Check.due("REACH 1", Check.told(reach + "reach 1;").way(1, 1), -2);
        MoodAnchor again = Check.told("bay a;bay b;bay c;bay d;lane a b 1;lane b c 1;lane c d 1;law hold 1;");
        Check.due("a night in each", again.way(3, 0), 5);
    }

    private static void wayEnd() {
        Doc.term(18, "the earliest DATE on which it ARRIVES at that BAY so, by DATE of now and 60 at most, with the fewest "
            + "LANES of those.");
        MoodAnchor few = Check.told("bay a;bay b;bay c;lane a b 2;lane b c 2;lane a c 5;");
        Check.due("as early by two", few.way(2, 0), 5);
        Check.due("fewest LANES", few.way(2, 1), 1);
        MoodAnchor more = Check.told("bay a;bay b;bay c;lane a b 2;lane b c 2;lane a c 6;");
        Check.due("earlier by two", more.way(2, 0), 5);
        Check.due("two LANES", more.way(2, 1), 2);
        MoodAnchor back = Check.told("bay a;bay b;bay c;lane a b 1;lane b c 1;lane a c 1;"
            + "law hold date=1 and many or date=2 or date=3 and many=2;deed b 0 1;deed c 0 1;deed c 0 1;");
        Check.due("c on 1", back.way(2, 0), 1);
        String shut = "bay a;bay b;lane a b 1;deed a 0 1;law hold last<99 or date=";
        Check.due("now and 60", Check.told(shut + "60;").way(1, 0), 60);
        Check.due("now and 60, LANES", Check.told(shut + "60;").way(1, 1), 1);
        Check.due("now and 61", Check.told(shut + "61;").way(1, 0), -2);
        MoodAnchor later = Check.told(shut + "64;");
        later.go(3);
        Check.due("now 3: 64 is too late", later.way(1, 0), -2);
        later.go(1);
        Check.due("now 4: 64", later.way(1, 0), 64);
        MoodAnchor sea = Check.told("bay a;bay b;bay c;lane a b 9;lane b c 9;law hold date<>18 and date<61 or date=70;");
        sea.sail(1);
        Check.due("at sea: c on 19", sea.way(2, 0), 19);
        MoodAnchor edge = Check.told("bay a;bay b;bay c;lane a b 9;lane b c 9;deed b 0 1;law hold many or date=60;");
        edge.sail(1);
        Check.due("at sea: now and 60, not of when it arrives", edge.way(2, 0), 60);
        MoodAnchor over = Check.told("bay a;bay b;bay c;lane a b 9;lane b c 9;deed b 0 1;law hold many or date=61;");
        over.sail(1);
        Check.due("at sea: now and 61", over.way(2, 0), -2);
        Check.due("now 9900", waysOnTheLastDate(), 9909);
    }

    private static int waysOnTheLastDate() {
        MoodAnchor x = Check.told("bay a;bay b;lane a b 9;");
        for (int i = 0; i < 100; i++) {
            x.go(99);
        }
        return x.way(1, 0);
    }

    private static void way() {
        MoodAnchor x = Check.told("bay a;bay b;bay c;bay d;lane a b 2;lane b c 2;lane a c 9;");
        Doc.promise(18, "WAY, what 0: the DATE, 1: LANES.");
        int[][] due = {{0, 0}, {2, 1}, {5, 2}};
        for (int bay = 0; bay < 3; bay++) {
            Check.due("way(" + bay + ", 0)", x.way(bay, 0), due[bay][0]);
            Check.due("way(" + bay + ", 1)", x.way(bay, 1), due[bay][1]);
        }
        x.go(7);
        Check.due("way(0, 0): today", x.way(0, 0), 7);
        Check.due("way(1, 0)", x.way(1, 0), 9);
        Check.due("nothing was done", x.count(6) + x.count(15), 0);
        Doc.promise(18, "-2: there is none;");
        Check.due("way(3, 0)", x.way(3, 0), -2);
        Check.due("way(3, 1)", x.way(3, 1), -2);
        Doc.promise(18, "NONE: no such ones.");
        Check.due("way(4, 0)", x.way(4, 0), -1);
        Check.due("way(8, 0)", x.way(8, 0), -1);
        Check.due("way(0, 2)", x.way(0, 2), -1);
        Check.due("way(3, 2)", x.way(3, 2), -1);
        for (int odd : ODD) {
            Check.due("way(" + odd + ", 0)", x.way(odd, 0), -1);
            Check.due("way(0, " + odd + ")", x.way(0, odd), -1);
        }
    }

    private static void never() {
        Doc.term(19, "NEVER: the BAYS (bits) to which there is no WAY (where it lies there is one: today, no LANES; so at sea "
            + "where it sails to, when it ARRIVES).");
        MoodAnchor x = Check.told("bay a;bay b;bay c;lane a b 2;ship b;law hold 0;");
        Check.due("all but b", x.never(), 5);
        Check.due("way(1, 0)", x.way(1, 0), 0);
        Check.due("way(1, 1)", x.way(1, 1), 0);
        x.go(1);
        x.sail(0);
        Check.due("all but a", x.never(), 6);
        Check.due("way(0, 0)", x.way(0, 0), 3);
        Check.due("way(0, 1)", x.way(0, 1), 0);
        x.go(2);
        Check.due("in the morning of its arrival", x.way(0, 0), 3);
        Check.due("all but a", x.never(), 6);
        x.go(1);
        Check.due("it lies: today", x.way(0, 0), 4);
        Doc.promise(19, "NEVER (bits).");
        Check.due("without BAYS", new MoodAnchor().never(), 0);
        Check.due("none", Check.told("bay a;bay b;lane a b 1;").never(), 0);
        Check.due("all but the first of eight",
            Check.told("bay a;bay b;bay c;bay d;bay e;bay f;bay g;bay h;").never(), 254);
        Check.due("all but the last of eight",
            Check.told("bay a;bay b;bay c;bay d;bay e;bay f;bay g;bay h;ship h;").never(), 127);
    }

    private static void kindness() {
        Doc.term(20, "KINDNESS for a BAY and a DATE: the least JOY 0 .. 9 of one DEED there now by which FORESEEN it HOLDS on "
            + "that DATE.");
        MoodAnchor x = Check.told("bay a;bay b;wind 2;wind 9;wind 9;deed b 1 3;law gain 0;");
        Check.due("now", x.kindness(0, 0), 2);
        Check.due("9 is one less a day later", x.kindness(0, 1), -2);
        Check.due("9 is most", Check.told("bay a;wind 9;").kindness(0, 0), 9);
        Check.due("with a DEED to come", x.kindness(1, 1), 6);
        Check.due("with a DEED gone by", x.kindness(1, 2), 7);
        Check.due("no need", x.kindness(0, 5), 0);
        Check.due("JOY 0 is a DEED, too", Check.told("bay a;law hold last=3 and many=1;").kindness(0, 3), 0);
        Check.due("the least, whatever more does", Check.told("bay a;law hold joys=4;").kindness(0, 0), 4);
        Check.due("one that holds without drags with", Check.told("bay a;law hold many=0;").kindness(0, 0), -2);
        Check.due("at that BAY", Check.told("bay a;bay b;wind 3;deed b 0 9;").kindness(0, 0), 3);
        Doc.promise(20, "KINDNESS (a DATE from now to now and 99);");
        Check.due("kindness(0, 99)", x.kindness(0, 99), 0);
        x.go(1);
        Check.due("kindness(0, 1)", x.kindness(0, 1), 9);
        Check.due("kindness(0, 100)", x.kindness(0, 100), 0);
        Check.due("nothing was done", x.bay(0, 2) + x.count(15), 0);
        Doc.promise(20, "-2: by none;");
        Check.due("kindness(0, 2)", x.kindness(0, 2), -2);
        Check.due("law hold 0", Check.told("bay a;law hold 0;").kindness(0, 0), -2);
        Doc.promise(20, "NONE: no such ones.");
        Check.due("kindness(0, 0)", x.kindness(0, 0), -1);
        Check.due("kindness(0, 101)", x.kindness(0, 101), -1);
        Check.due("kindness(2, 1)", x.kindness(2, 1), -1);
        Check.due("kindness(8, 1)", x.kindness(8, 1), -1);
        for (int odd : ODD) {
            Check.due("kindness(0, " + odd + ")", x.kindness(0, odd), -1);
            Check.due("kindness(" + odd + ", 1)", x.kindness(odd, 1), -1);
        }
    }

    private static void winter() {
        Doc.term(21, "WINTER for n nights from now on: the BAY in which FORESEEN most of these HOLD, the first of several.");
        MoodAnchor x = Check.told("bay a;bay b;bay c;bay d;wind 1;wind 1;wind 1;deed d 1 5;deed c 1 5;deed b 2 5;");
        Check.due("none on the first night: the first", x.winter(1, 0), 0);
        Check.due("two nights: c and d alike", x.winter(2, 0), 2);
        Check.due("three nights", x.winter(3, 1), 2);
        x.go(2);
        Check.due("from now on: all of b, c, d", x.winter(1, 0), 1);
        Check.due("from now on", x.winter(2, 1), 2);
        Check.due("the last of eight", Check.told("bay a;bay b;bay c;bay d;bay e;bay f;bay g;bay h;wind 1;deed h 0 1;")
            .winter(9, 0), 7);
        Doc.promise(21, "WINTER (n 1 .. 60), what 0: the BAY, 1: how many nights it HOLDS.");
        MoodAnchor y = Check.told("bay a;bay b;law hold many and date<>59;deed b 1 1;");
        Check.due("winter(1, 1)", y.winter(1, 1), 0);
        Check.due("winter(2, 0)", y.winter(2, 0), 1);
        Check.due("winter(59, 1)", y.winter(59, 1), 58);
        Check.due("winter(60, 1)", y.winter(60, 1), 58);
        Check.due("60 nights", Check.told("bay a;").winter(60, 1), 60);
        Doc.promise(21, "NONE: no such ones, no BAYS.");
        Check.due("winter(0, 0)", y.winter(0, 0), -1);
        Check.due("winter(61, 0)", y.winter(61, 0), -1);
        Check.due("winter(3, 2)", y.winter(3, 2), -1);
        for (int odd : ODD) {
            Check.due("winter(" + odd + ", 0)", y.winter(odd, 0), -1);
            Check.due("winter(3, " + odd + ")", y.winter(3, odd), -1);
        }
        Check.due("no BAYS", new MoodAnchor().winter(3, 0), -1);
        Check.due("no BAYS", new MoodAnchor().winter(3, 1), -1);
    }

    private static void copies() {
        Doc.term(22, "COPIES of copies: the n-th from the anchor on holds by TRUST of a hundred to the power of n.");
        MoodAnchor x = Check.told("trust 99;");
        long above = 1;
        long below = 1;
        for (int n = 1; n <= 8; n++) {
            above *= 99;
            below *= 100;
            Check.due("copies(" + n + ", 0)", x.copies(n, 0), above);
            Check.due("copies(" + n + ", 1)", x.copies(n, 1), below);
        }
        Doc.promise(22, "COPIES (n 1 .. 8) in least terms, what 0: the number above, 1: the one below.");
        int[][] due = {{0, 0, 1}, {1, 1, 100}, {2, 1, 50}, {40, 2, 5}, {50, 1, 2}, {60, 3, 5}, {75, 3, 4}, {98, 49, 50},
            {100, 1, 1}};
        for (int[] row : due) {
            MoodAnchor y = Check.told("trust " + row[0] + ";");
            Check.due("trust " + row[0] + " above", y.copies(1, 0), row[1]);
            Check.due("trust " + row[0] + " below", y.copies(1, 1), row[2]);
            Check.due("trust " + row[0] + " above, cubed", y.copies(3, 0), (long) row[1] * row[1] * row[1]);
            Check.due("trust " + row[0] + " below, cubed", y.copies(3, 1), (long) row[2] * row[2] * row[2]);
        }
        Check.due("trust 0, the eighth", Check.told("trust 0;").copies(8, 1), 1);
        Doc.promise(22, "NONE: no such ones.");
        Check.due("copies(0, 0)", x.copies(0, 0), -1);
        Check.due("copies(9, 0)", x.copies(9, 0), -1);
        Check.due("copies(1, 2)", x.copies(1, 2), -1);
        for (int odd : ODD) {
            Check.due("copies(" + odd + ", 0)", x.copies(odd, 0), -1);
            Check.due("copies(1, " + odd + ")", x.copies(1, odd), -1);
        }
    }

    private static void bidsByLanes() {
        Doc.term(23, "BIDS: a harbour's is its MOOD FORESEEN less 10 times how many LANES it is from where the ship lies (at "
            + "sea: from where it sails to) by the fewest (REACH doesn't matter; 0 at least; 0, if there is no way): the "
            + "best one, the first of several.");
        MoodAnchor x = Check.told("bay a;bay b;bay c;bay d;lane a b 9;lane b c 9;reach 1;"
            + "deed a 0 2;deed b 0 3;deed c 0 6;deed d 0 9;");
        Check.due("c by two LANES, REACH doesn't matter, to d there is no way", x.bids(0), 2);
        Check.due("60 less 20", x.bids(1), 40);
        x.sail(1);
        Check.due("at sea: one LANE from b", x.bids(1), 50);
        x.go(1);
        Check.due("at sea: a day later", x.bids(1), 49);
        MoodAnchor alike = Check.told("bay a;bay b;bay c;lane a b 1;deed b 0 3;deed c 0 9;deed a 0 2;");
        Check.due("the first of several", alike.bids(0), 0);
        Check.due("20 and 30 less 10", alike.bids(1), 20);
        MoodAnchor fewest = Check.told("bay a;bay b;bay c;lane a b 1;lane b c 1;lane a c 9;deed c 0 4;");
        Check.due("by the fewest LANES, not days", fewest.bids(1), 30);
        MoodAnchor least = Check.told("bay a;bay b;lane a b 1;ship b;law fond 5;");
        Check.due("5 less 10 is 0", least.bids(0), 1);
        Check.due("5", least.bids(1), 5);
        MoodAnchor first = Check.told("bay a;bay b;lane a b 1;ship b;deed a 0 7;deed b 0 5;");
        Check.due("the first one is a LANE off", first.bids(0), 0);
        Check.due("70 less 10", first.bids(1), 60);
        MoodAnchor none = Check.told("bay a;bay b;lane a b 1;ship b;law fond joys*9;deed a 0 1;");
        Check.due("0 at least: the first of several", none.bids(0), 0);
        Check.due("0 at least", none.bids(1), 0);
        MoodAnchor off = Check.told("bay a;bay b;deed b 0 9;");
        Check.due("no way: the first of several", off.bids(0), 0);
        Check.due("no way", off.bids(1), 0);
        MoodAnchor here = Check.told("bay a;law fond here*90+3;");
        Check.due("FORESEEN: here 0", here.bids(1), 3);
        Check.due("today's DEEDS", Check.told("bay a;deed a 0 4;deed a 1 5;").bids(1), 40);
        MoodAnchor row = Check.told("bay a;bay b;bay c;bay d;bay e;bay f;bay g;bay h;lane a b 1;lane b c 1;lane c d 1;"
            + "lane d e 1;lane e f 1;lane f g 1;lane g h 1;deed h 0 9;");
        Check.due("seven LANES", row.bids(0), 7);
        Check.due("90 less 70", row.bids(1), 20);
    }

    private static void bids() {
        MoodAnchor x = Check.told("bay a;bay b;lane a b 1;deed b 0 3;");
        Doc.promise(23, "BIDS, what 0: the BAY with the best, 1: how much.");
        Check.due("bids(0)", x.bids(0), 1);
        Check.due("bids(1)", x.bids(1), 20);
        Doc.promise(23, "NONE for another what, without BAYS.");
        Check.due("bids(2)", x.bids(2), -1);
        for (int odd : ODD) {
            Check.due("bids(" + odd + ")", x.bids(odd), -1);
        }
        Check.due("without BAYS", new MoodAnchor().bids(0), -1);
        Check.due("without BAYS", new MoodAnchor().bids(1), -1);
    }

    private static void due(MoodAnchor x, int n, int... rests) {
        Check.due("rests(" + n + ")", x.rests(n), rests.length);
        for (int k = 0; k < rests.length; k++) {
            Check.due("rest(" + n + ", " + k + ")", x.rest(n, k), rests[k]);
        }
        Check.due("one more", x.rest(n, rests.length), -2);
    }

    private static void share() {
        Doc.term(24, "SHARE of two captains for n nights: each chooses a BAY; one alone there has as many nights as FORESEEN "
            + "HOLD there; in the same one both half of these, cut.");
        // Of three nights a holds 1, b 3, c 1: half of 3, cut, is 1.
        MoodAnchor x = Check.told("bay a;bay b;bay c;law hold many>0;deed a 2 1;deed b 0 1;deed c 2 1;");
        due(x, 3, 1, 10, 11, 12, 21);
        // Of four a holds 2, b 4, c 2: half of 4 is 2.
        due(x, 4, 1, 10, 11, 12, 21);
        // Of two b alone holds.
        due(x, 2, 11);
        // Of five a holds 3, b 5 and half of these 2.
        due(x, 5, 1, 10, 12, 21);
        x.go(2);
        due(x, 1, 1, 2, 10, 12, 20, 21);
        Doc.term(24, "A REST: neither would have more in another BAY. RESTS: by the first one's, then the second one's.");
        MoodAnchor none = Check.told("bay a;bay b;law hold 0;");
        due(none, 9, 0, 1, 10, 11);
        due(Check.told("bay a;"), 9, 0);
        MoodAnchor one = Check.told("bay a;bay b;deed b 0 1;law hold many and date<1;");
        due(one, 9, 1, 10, 11);
        MoodAnchor two = Check.told("bay a;bay b;deed b 0 1;law hold many and date<2;");
        due(two, 9, 11);
        due(Check.told("bay a;bay b;deed a 0 1;law hold many and date<2;"), 9, 0);
        due(Check.told("bay a;bay b;bay c;deed b 0 1;law hold many and date<2;"), 9, 11);
    }

    private static void rests() {
        Doc.promise(24, "How many RESTS a SHARE has (n 1 .. 60);");
        MoodAnchor x = Check.told("bay a;bay b;law hold many and (date<1 or date=59);deed b 0 1;");
        Check.due("rests(1)", x.rests(1), 3);
        Check.due("rests(59)", x.rests(59), 3);
        Check.due("rests(60)", x.rests(60), 1);
        MoodAnchor eight = Check.told("bay a;bay b;bay c;bay d;bay e;bay f;bay g;bay h;law hold 0;");
        Check.due("eight BAYS", eight.rests(1), 64);
        Check.due("the last", eight.rest(1, 63), 77);
        Check.due("behind it", eight.rest(1, 64), -2);
        Doc.promise(24, "NONE: no such n, no BAYS.");
        Check.due("rests(0)", x.rests(0), -1);
        Check.due("rests(61)", x.rests(61), -1);
        for (int odd : ODD) {
            Check.due("rests(" + odd + ")", x.rests(odd), -1);
        }
        Check.due("no BAYS", new MoodAnchor().rests(1), -1);
    }

    private static void rest() {
        Doc.promise(25, "The k-th: ten times the first one's BAY and the second one's;");
        MoodAnchor x = Check.told("bay a;bay b;bay c;law hold 0;");
        due(x, 60, 0, 1, 2, 10, 11, 12, 20, 21, 22);
        MoodAnchor y = Check.told("bay a;bay b;deed b 0 1;law hold many and date<2;");
        Check.due("of two nights", y.rest(2, 0), 11);
        Check.due("of one night", y.rest(1, 0), 1);
        Check.due("of two nights", y.rest(2, 0), 11);
        Doc.promise(25, "-2: there are no so many;");
        Check.due("rest(60, 9)", x.rest(60, 9), -2);
        Check.due("rest(60, 64)", x.rest(60, 64), -2);
        Check.due("rest(60, 2147483647)", x.rest(60, 2147483647), -2);
        Doc.promise(25, "NONE likewise, k is below 0.");
        Check.due("rest(0, 0)", x.rest(0, 0), -1);
        Check.due("rest(61, 0)", x.rest(61, 0), -1);
        Check.due("rest(61, 99)", x.rest(61, 99), -1);
        Check.due("rest(60, -1)", x.rest(60, -1), -1);
        Check.due("rest(60, -2147483648)", x.rest(60, -2147483648), -1);
        for (int odd : ODD) {
            Check.due("rest(" + odd + ", 0)", x.rest(odd, 0), -1);
        }
        Check.due("no BAYS", new MoodAnchor().rest(3, 0), -1);
    }

    /** In how many of ten times no more than so many of n nights are adrift, joys 5 on the first day, trust 60. */
    private static int byHand(long seed, int n, int most, boolean copy, int atSea) {
        long state = seed;
        int good = 0;
        for (int time = 0; time < 10; time++) {
            int joys = 5;
            int last = 0;
            int adrift = 0;
            for (int night = 0; night < n; night++) {
                state = DaySentences.next(state);
                long gale = state / 65536 % 10;
                if (night < atSea) {
                    gale = -1;
                } else if (copy) {
                    state = DaySentences.next(state);
                    adrift += state / 65536 % 100 < 60 ? 0 : 1;
                } else if (Math.max(0, Math.min(100, 10 * joys - last)) >= 10 * gale) {
                    joys++;
                    last = 0;
                } else {
                    joys = Math.max(0, joys - 2);
                    adrift++;
                }
                last++;
            }
            good += adrift <= most ? 1 : 0;
        }
        return good;
    }

    private static void byChance() {
        Doc.term(31, "NIGHTS by chance: of now and all DATES to come WINDS are numbers modulo 10, one ahead of each night (with "
            + "the COPY one more behind it).");
        MoodAnchor x = Check.told("bay a;deed a 0 5;trust 60;wind 9;wind 9;");
        for (int seed : SEEDS) {
            for (int most = 0; most < 5; most++) {
                Check.due("seed " + seed + " most " + most, x.chance(seed, 5, most), byHand(seed, 5, most, false, 0));
            }
        }
        x.copy(true);
        for (int seed : SEEDS) {
            for (int most = 0; most < 5; most++) {
                Check.due("copy, seed " + seed + " most " + most, x.chance(seed, 5, most), byHand(seed, 5, most, true, 0));
            }
        }
        MoodAnchor y = Check.told("bay a;bay b;lane a b 2;deed b 0 5;trust 60;");
        y.sail(1);
        y.copy(true);
        for (int seed : SEEDS) {
            for (int most = 0; most < 4; most++) {
                Check.due("at sea, seed " + seed + " most " + most, y.chance(seed, 6, most), byHand(seed, 6, most, true, 2));
            }
        }
        y.copy(false);
        for (int seed : SEEDS) {
            for (int most = 0; most < 4; most++) {
                Check.due("at sea, seed " + seed + " most " + most, y.chance(seed, 6, most), byHand(seed, 6, most, false, 2));
            }
        }
        Check.due("gale in a law", Check.told("bay a;wind 3;law hold gale<10;").chance(5, 60, 0), 10);
    }

    private static void chance() {
        Doc.promise(31, "In how many of ten times drawn (numbers from a seed 0 .. 2147483647 on, one behind another; n 1 .. 60 "
            + "nights from now) no more than so many 0 .. 60 are ADRIFT;");
        MoodAnchor x = Check.told("bay a;deed a 0 5;trust 60;seed 4;");
        for (int seed : SEEDS) {
            Check.due("n 1, seed " + seed, x.chance(seed, 1, 0), byHand(seed, 1, 0, false, 0));
            Check.due("n 60, seed " + seed, x.chance(seed, 60, 30), byHand(seed, 60, 30, false, 0));
        }
        MoodAnchor all = Check.told("bay a;law hold 0;");
        Check.due("60 of 60", all.chance(1, 60, 60), 10);
        Check.due("not 59 of 60", all.chance(1, 60, 59), 0);
        Check.due("not 0 of 1", all.chance(1, 1, 0), 0);
        Check.due("1 of 1", all.chance(1, 1, 1), 10);
        all.go(5);
        Check.due("nights from now, not those gone by", all.chance(1, 2, 2), 10);
        Check.due("nothing went by", all.count(5), 5);
        x.chance(9, 60, 5);
        x.copy(true);
        x.go(30);
        Check.due("its own numbers stay", x.count(9), DaySentences.heldByHand(4, 60, 30));
        Doc.promise(31, "NONE: no such ones.");
        Check.due("n 0", x.chance(1, 0, 5), -1);
        Check.due("n 61", x.chance(1, 61, 5), -1);
        Check.due("adrift 61", x.chance(1, 5, 61), -1);
        for (int odd : ODD) {
            Check.due("seed " + odd, x.chance(odd, 5, 5), odd < 0 ? -1 : x.chance(odd, 5, 5));
            Check.due("n " + odd, x.chance(1, odd, 5), -1);
            Check.due("adrift " + odd, x.chance(1, 5, odd), -1);
        }
    }

    private static void triedOtherwise() {
        Doc.term(32, "TRIED for n nights as it goes: how many are ADRIFT: 0 as it is, 1 no WIND, 2 without DEED i from now on, "
            + "3 DEEDS from now on have JOY 9, 4 the COPY is down, 5 it isn't.");
        MoodAnchor x = Check.told("bay a;deed a 0 3;deed a 1 2;wind 3;wind 5;wind 9;wind 9;trust 49;");
        Check.due("as it is", x.tried(0, 0, 4), 2);
        Check.due("no WIND", x.tried(1, 0, 4), 0);
        Check.due("without DEED 0", x.tried(2, 0, 4), 4);
        Check.due("without DEED 1", x.tried(2, 1, 4), 3);
        Check.due("JOY 9", x.tried(3, 0, 4), 0);
        Check.due("the COPY is down", x.tried(4, 0, 4), 4);
        Check.due("it isn't", x.tried(5, 0, 4), 2);
        x.copy(true);
        Check.due("as it is, down", x.tried(0, 0, 4), 4);
        Check.due("it isn't", x.tried(5, 0, 4), 2);
        Check.due("down as it is", x.tried(4, 0, 4), 4);
        Check.due("no WIND, down", x.tried(1, 0, 4), 4);
        x.undo();
        x.go(1);
        Check.due("DEED 0 has been", x.tried(2, 0, 3), x.tried(0, 0, 3));
        Check.due("JOY 9 of DEED 1 alone", x.tried(3, 0, 3), 0);
        Check.due("DEED 1 of today", x.tried(2, 1, 1), 1);
        Check.due("as it is", x.tried(0, 0, 1), 0);
        x.go(1);
        Check.due("JOY 9 of none", x.tried(3, 0, 2), x.tried(0, 0, 2));
        Check.due("nights gone by don't count", x.tried(0, 0, 0), 0);
        for (int what = 0; what <= 5; what++) {
            MoodAnchor still = Check.told("bay a;deed a 0 3;deed a 1 2;wind 3;wind 5;wind 9;wind 9;trust 49;");
            still.tried(what, 0, 4);
            Check.due("firstAdrift(9) as ahead of " + what, still.firstAdrift(9), 3);
            still.tried(what, 0, 4);
            Check.due("chance(7, 4, 1) as ahead of " + what, still.chance(7, 4, 1),
                Check.told("bay a;deed a 0 3;deed a 1 2;trust 49;").chance(7, 4, 1));
            still.tried(what, 0, 4);
            still.go(4);
            Check.due("nights as ahead of " + what, still.count(10), 2);
        }
        MoodAnchor law = Check.told("bay a;wind 1;wind 1;law hold gale=0;");
        Check.due("no WIND in laws", law.tried(1, 0, 3), 0);
        Check.due("WIND in laws", law.tried(0, 0, 3), 2);
        Check.due("nothing went by", law.count(5) + law.count(10), 0);
    }

    private static void tried() {
        Doc.promise(32, "TRIED (n 0 .. 60);");
        MoodAnchor x = Check.told("bay a;deed a 0 3;deed a 1 2;law hold 0;trust 0;");
        for (int what = 0; what <= 5; what++) {
            Check.due("n 0", x.tried(what, 0, 0), 0);
            Check.due("n 1", x.tried(what, 0, 1), 1);
            Check.due("n 60", x.tried(what, 0, 60), 60);
        }
        Check.due("the last DEED", x.tried(2, 1, 60), 60);
        Doc.promise(32, "NONE: no such ones (i 0 of all but 2).");
        for (int what = 0; what <= 5; what++) {
            Check.due("n 61", x.tried(what, 0, 61), -1);
            Check.due("i 2", x.tried(what, 2, 1), -1);
            if (what != 2) {
                Check.due("i 1", x.tried(what, 1, 1), -1);
            }
            for (int odd : ODD) {
                Check.due("i " + odd, x.tried(what, odd, 1), -1);
                Check.due("n " + odd, x.tried(what, 0, odd), -1);
            }
        }
        Check.due("what 6", x.tried(6, 0, 1), -1);
        for (int odd : ODD) {
            Check.due("what " + odd, x.tried(odd, 0, 1), -1);
        }
        Check.due("without DEEDS", Check.told("bay a;").tried(2, 0, 1), -1);
        Check.due("without DEEDS", Check.told("bay a;").tried(3, 0, 1), 0);
    }
}
