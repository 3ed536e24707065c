/** Promises 1 to 5 and part 1 of the terms: the tape, what a text may be, its faults. */
final class TextSentences {
    private static final int BLANKS = 0x20202020;
    private static final String EIGHT = "bay a;bay b;bay c;bay d;bay e;bay f;bay g;bay h;";
    private static final String TWELVE = EIGHT + "lane a b 1;lane a c 1;lane a d 1;lane a e 1;lane a f 1;lane a g 1;"
        + "lane a h 1;lane b c 1;lane b d 1;lane b e 1;lane b f 1;lane b g 9;";
    private static final String[] LANGUAGE = {"bay", "lane", "deed", "wind", "ship", "reach", "trust", "seed", "law",
        "fond", "hold", "gain", "or", "and", "not", "joys", "last", "many", "gale", "date", "mood", "here"};
    private static final int[] ODD = {-2147483648, -1000, -2, 2, 3, 1000, 2147483647};

    private TextSentences() {
    }

    static void test() {
        newObject();
        feed();
        fullTape();
        text();
        textAhead();
        textBehindAnother();
        textWithFault();
        textRefused();
        fault();
        named();
        lines();
        words();
        numbers();
        limits();
        settings();
        tokensThatAreNone();
        tokensOutOfPlace();
        tooMuch();
        knots();
        toldAlready();
        untold();
        firstAlongTheText();
    }

    private static void newObject() {
        Doc.promise(1, "A TEXT without LINES;");
        MoodAnchor x = new MoodAnchor();
        for (int what = 0; what <= 15; what++) {
            Check.due("count(" + what + ")", x.count(what), what >= 6 && what <= 8 ? -1 : 0);
        }
        Check.due("fault(0)", x.fault(0), 0);
        Check.due("fault(1)", x.fault(1), -1);
        Check.due("named(a)", x.named(1 << 25), -1);
        Check.due("named(0)", x.named(0), -1);
        Check.due("lane(0, 0)", x.lane(0, 0), -1);
        Check.due("deed(0, 0)", x.deed(0, 0), -1);
        Check.due("wind(0)", x.wind(0), 0);
        Check.due("bay(0, 0) throws", DaySentences.thrown(x, 0, 0), 1);
        Check.due("mood(0, 0)", x.mood(0, 0), -1);
        Check.due("holds(0, 0)", x.holds(0, 0), -1);
        Check.due("law(0, 0)", x.law(0, 0), Long.MIN_VALUE);
        Check.due("sail(0)", x.sail(0), -1);
        Check.due("kind(0, 0)", x.kind(0, 0), -1);
        Check.due("way(0, 0)", x.way(0, 0), -1);
        Check.due("never()", x.never(), 0);
        Check.due("kindness(0, 0)", x.kindness(0, 0), -1);
        Check.due("note(0, 0, true)", x.note(0, 0, true), -1);
        Check.due("was(0)", x.was(0), -1);
        Check.due("tells(0)", x.tells(0), -1);
        Check.due("firstAdrift(99)", x.firstAdrift(99), -2);
        Check.due("chance(1, 60, 0)", x.chance(1, 60, 0), 10);
        Check.due("tried(0, 0, 60)", x.tried(0, 0, 60), 0);
        Check.due("copies(1, 1): trust 50", x.copies(1, 1), 2);
        Check.due("copy(true)", x.copy(true), true);
        Check.due("go(9)", x.go(9), 9);
        Check.due("no night is of any sort", x.count(9) + x.count(10) + x.count(11), 0);
        Doc.promise(1, "an empty TAPE.");
        MoodAnchor y = new MoodAnchor();
        Check.due("text(1)", y.text(1), -2);
        Check.due("text(0)", y.text(0), 0);
        Check.due("the first feed", y.feed(BLANKS, BLANKS, BLANKS, BLANKS, BLANKS), 20);
    }

    private static void feed() {
        Doc.promise(2, "Twenty bytes come behind the TAPE, four of each number, the highest first: how many it has;");
        MoodAnchor x = new MoodAnchor();
        // "bay abcdef;wind 7;ba" and "y z;" with blanks behind.
        Check.due("feed", x.feed(0x62617920, 0x61626364, 0x65663b77, 0x696e6420, 0x373b6261), 20);
        Check.due("feed", x.feed(0x79207a3b, BLANKS, BLANKS, BLANKS, BLANKS), 40);
        Check.due("text(40)", x.text(40), 3);
        Check.due("named(abcdef)", x.named(Check.letters("abcdef")), 0);
        Check.due("named(z)", x.named(Check.letters("z")), 1);
        Check.due("wind(0)", x.wind(0), 7);
        // A byte of each number in turn that is no token: its place is told.
        for (int place = 0; place < 20; place++) {
            int[] five = {BLANKS, BLANKS, BLANKS, BLANKS, BLANKS};
            five[place / 4] ^= 0xdf << 8 * (3 - place % 4);
            MoodAnchor y = new MoodAnchor();
            y.feed(five[0], five[1], five[2], five[3], five[4]);
            Check.due("text(20)", y.text(20), -1);
            Check.due("the byte 255 at " + place, y.fault(1), place);
        }
    }

    private static void fullTape() {
        Doc.promise(2, "NONE, and none come, if it would have more than 700.");
        MoodAnchor x = new MoodAnchor();
        // "bay b;" first, then blanks.
        Check.due("feed 1", x.feed(0x62617920, 0x623b2020, BLANKS, BLANKS, BLANKS), 20);
        for (int i = 2; i <= 35; i++) {
            Check.due("feed " + i, x.feed(BLANKS, BLANKS, BLANKS, BLANKS, BLANKS), 20 * i);
        }
        Check.due("feed 36", x.feed(0x21212121, 0x21212121, 0x21212121, 0x21212121, 0x21212121), -1);
        Check.due("feed 37", x.feed(0x21212121, 0x21212121, 0x21212121, 0x21212121, 0x21212121), -1);
        Check.due("text(701)", x.text(701), -2);
        Check.due("text(700)", x.text(700), 1);
        Check.due("fault(0)", x.fault(0), 0);
        Check.due("there is room again", x.feed(0, 0, 0, 0, 0), 20);
    }

    private static void text() {
        Doc.promise(3, "The TAPE's first n bytes (it is empty then) are the TEXT");
        MoodAnchor x = new MoodAnchor();
        Check.feed(x, "bay a;wind 12;bay b;!");
        Check.due("text(6): what is behind isn't read", x.text(6), 1);
        Check.due("what is behind is gone", x.text(1), -2);
        Check.due("the next feed", x.feed(BLANKS, BLANKS, BLANKS, BLANKS, BLANKS), 20);
        Check.due("text(20)", x.text(20), 0);
        Check.feed(x, "bay a;wind 12;");
        Check.due("a number cut in two", x.text(12), -1);
        Check.due("is a lesser one: ; must come", x.fault(0) * 100 + x.fault(1), 112);
        Check.feed(x, "bay abcdefgh;");
        Check.due("a word cut in two", x.text(10), -1);
        Check.due("is a shorter one: ; must come", x.fault(0) * 100 + x.fault(1), 110);
        Check.feed(x, "law fond 1<=2;");
        Check.due("a sign cut in two", x.text(11), -1);
        Check.due("is another: more must come", x.fault(0) * 100 + x.fault(1), 111);
        Check.feed(x, "bay a;bay b;");
        Check.due("text(0) of a full tape", x.text(0), 0);
        Check.due("no BAYS", x.count(0), 0);
        Check.due("empty then", x.text(1), -2);
        Check.due("fed again", x.feed(0, 0, 0, 0, 0), 20);
        Check.due("with a FAULT", x.text(3), -1);
        Check.due("empty then, too", x.text(1), -2);
        Doc.promise(3, "how many LINES;");
        Check.lines("", 0);
        Check.lines("\n \n", 0);
        Check.lines("wind 1;", 1);
        Check.lines("bay a;wind 1;law fond 1;", 3);
        Check.lines(Check.repeat("wind 9;", 20) + TWELVE, 40);
    }

    private static MoodAnchor lived() {
        MoodAnchor x = Check.told("bay a;bay b;lane a b 3;deed a 0 5;wind 2;wind 9;law gain 2;trust 70;seed 9;reach 4;");
        x.go(2);
        x.keep();
        x.copy(true);
        x.sail(1);
        x.go(1);
        x.kind(0, 9);
        x.kind(1, 4);
        x.note(0, 0, true);
        x.note(1, 6, false);
        x.known(1);
        return x;
    }

    private static void textAhead() {
        Doc.promise(3, "(ahead of DATE 0, the COPY up, no NOTES, all KNOWN, no IMAGE, nothing to undo then)");
        MoodAnchor x = lived();
        Check.due("text", Check.tell(x, "bay c;bay d;deed d 0 3;wind 3;"), 4);
        Check.due("DATE", x.count(5), 0);
        Check.due("the ship lies in the first one", x.count(6), 0);
        Check.due("sails to none", x.count(7), -1);
        Check.due("arrives never", x.count(8), -1);
        Check.due("HELD, ADRIFT, at sea", x.count(9) + x.count(10) + x.count(11), 0);
        Check.due("the COPY", x.count(12), 0);
        Check.due("NOTES", x.count(13), 0);
        Check.due("known(1)", x.known(1), false);
        x.note(1, 1, true);
        x.note(1, 0, false);
        Check.due("all KNOWN, also those to come", x.was(0), 7);
        Check.due("by two", x.count(14), 2);
        Check.due("IMAGE", x.back(), -1);
        Check.due("to undo", x.count(15), 0);
        Check.due("undo()", x.undo(), -1);
        for (int bay = 0; bay < 2; bay++) {
            Check.due("JOYS", x.bay(bay, 0), 0);
            Check.due("LAST", x.bay(bay, 1), 99);
            Check.due("MANY", x.bay(bay, 2), 0);
        }
        Check.due("old LANES are gone", x.lane(0, 1), 0);
        Check.due("old laws are gone", x.law(2, 0), Long.MIN_VALUE);
        Check.due("KNOTS", x.count(4), 0);
        Check.due("trust is 50 again", x.copies(1, 1), 2);
        Check.due("old names are gone", x.named(Check.letters("a")), -1);
        Check.due("today's DEEDS are to come", x.mood(1, 0), 30);
        MoodAnchor seeded = lived();
        Check.tell(seeded, "bay a;seed 123;");
        MoodAnchor fresh = Check.told("bay a;seed 123;");
        seeded.copy(true);
        fresh.copy(true);
        for (int i = 0; i < 20; i++) {
            seeded.go(1);
            fresh.go(1);
            Check.due("numbers begin at the seed", seeded.count(9), fresh.count(9));
        }
    }

    /** Nothing of a text ahead may be left, whatever it told and however it ended. */
    private static void textBehindAnother() {
        String rich = TWELVE + Check.repeat("deed a 0 9;", 6) + Check.repeat("deed h 1 9;", 6)
            + Check.repeat("wind 9;", 20) + "ship h;reach 1;trust 99;seed 77;law fond not mood;law hold not 0;law gain 8-1;";
        String[] poor = {"", "bay a;", "bay a;bay b;", "bay a;bay b;lane a b 2;deed b 1 3;wind 1;wind 1;",
            "bay b;bay a;deed a 0 1;law fond 5;", "bay z;law hold not joys;", "bay z;law gain (2);trust 30;"};
        String[] cut = {"law fond 1+2*(3", "law fond not (not (", "law hold 1<2 and 3+", "bay x;ship x;ship x;", "law gain 1;law gain"};
        for (String text : poor) {
            MoodAnchor x = Check.told(rich);
            queryAll(x);
            x.copy(true);
            x.go(30);
            x.sail(1);
            x.go(3);
            x.kind(7, 9);
            x.note(0, 0, true);
            x.note(7, 9, false);
            x.known(1);
            queryAll(x);
            x.keep();
            Check.due("text", Check.tell(x, text), text.length() - text.replace(";", "").length());
            Check.due("all calls of " + text, queryAll(x).equals(queryAll(Check.told(text))), true);
            for (String wrong : cut) {
                MoodAnchor y = new MoodAnchor();
                Check.due("text", Check.tell(y, wrong), -1);
                Check.tell(y, text);
                Check.due("all calls of " + text + " behind " + wrong, queryAll(y).equals(queryAll(Check.told(text))), true);
            }
        }
        MoodAnchor x = new MoodAnchor();
        Check.due("five brackets open", Check.tell(x, "law fond (((((1"), -1);
        Check.due("eight may be", Check.tell(x, "law fond ((((((((1))))))));"), 1);
        for (int i = 0; i < 12; i++) {
            Check.due("eight brackets open", Check.tell(x, "law fond ((((((((1+2"), -1);
        }
        Check.due("a good one behind them", Check.tell(x, "bay a;law fond 1-2*(3-4);"), 2);
        Check.due("its value", x.law(0, 0), 3);
        Check.due("five brackets open", Check.tell(x, "law fond (((((1"), -1);
        Check.due("none is now", Check.tell(x, "law fond 1);"), -1);
        Check.due("fault(1)", x.fault(1), 10);
    }

    /** The answers of every call that asks, then of nights by anchor and by copy. */
    static String queryAll(MoodAnchor x) {
        StringBuilder all = new StringBuilder();
        int date = x.count(5);
        for (int i = 0; i < 16; i++) {
            all.append(x.count(i)).append(' ').append(x.wind(i)).append(' ').append(x.named(1 + i << 25)).append(' ');
        }
        for (int bay = 0; bay < 3; bay++) {
            all.append(DaySentences.thrown(x, bay, 0)).append(' ').append(x.lane(0, bay)).append(' ');
            all.append(x.deed(bay, 2)).append(' ').append(x.mood(bay, date + 1)).append(' ').append(x.holds(bay, date));
            all.append(' ').append(x.law(bay, 0)).append(' ').append(x.way(bay, 0)).append(' ').append(x.way(bay, 1));
            all.append(' ').append(x.kindness(bay, date + 1)).append(' ').append(x.was(bay)).append(' ').append(x.tells(bay));
            all.append(' ').append(x.tried(bay, 0, 9)).append(' ').append(x.tried(3 + bay, 0, 9)).append(' ');
        }
        all.append(x.firstAdrift(9)).append(' ').append(x.never()).append(' ').append(x.winter(5, 0)).append(' ');
        all.append(x.winter(5, 1)).append(' ').append(x.copies(2, 0)).append(' ').append(x.bids(0)).append(' ');
        all.append(x.bids(1)).append(' ').append(x.rests(5)).append(' ').append(x.rest(5, 0)).append(' ');
        all.append(x.chance(3, 9, 2)).append(' ').append(x.undo()).append(' ').append(x.back()).append(' ');
        x.go(3);
        x.copy(true);
        x.go(20);
        x.copy(false);
        return all.append(x.count(9)).append(' ').append(x.count(10)).append(' ').append(x.count(11)).toString();
    }

    private static void textWithFault() {
        Doc.promise(3, "NONE with a FAULT, all stays;");
        String[] wrong = {"bay", "bay c;bay c;", "bay c;ship d;", "bay c;lane c c 1;", "wind 10;", "trust 1;seed 1;law gain"};
        for (String text : wrong) {
            MoodAnchor x = lived();
            MoodAnchor same = lived();
            Check.due("text " + text, Check.tell(x, text), -1);
            for (int what = 0; what <= 15; what++) {
                Check.due("count(" + what + ")", x.count(what), same.count(what));
            }
            for (int what = 0; what < 4; what++) {
                Check.due("bay(0, " + what + ")", x.bay(0, what), same.bay(0, what));
                Check.due("bay(1, " + what + ")", x.bay(1, what), same.bay(1, what));
            }
            Check.due("names", x.named(Check.letters("b")), 1);
            Check.due("LANES", x.lane(0, 1), 3);
            Check.due("DEEDS", x.deed(0, 2), 5);
            Check.due("WINDS", x.wind(0), 2);
            Check.due("laws", x.law(2, 0), 2);
            Check.due("trust", x.copies(1, 0), 7);
            Check.due("KNOWN", x.was(0), same.was(0));
            Check.due("to undo", x.undo(), same.undo());
            Check.due("go(9)", x.go(9), same.go(9));
            Check.due("the same nights", x.count(9), same.count(9));
            Check.due("IMAGE", x.back(), 2);
        }
    }

    private static void textRefused() {
        Doc.promise(3, "-2, and the TAPE stays: there are not so many, n is below 0.");
        MoodAnchor x = Check.told("bay a;");
        Check.due("text(1) of an empty one", x.text(1), -2);
        Check.feed(x, "bay b;wind 3;");
        for (int n : new int[] {21, 22, 700, 701, 2147483647, -1, -2, -2147483648}) {
            Check.due("text(" + n + ")", x.text(n), -2);
            Check.due("all stays", x.named(Check.letters("a")), 0);
        }
        Check.due("the tape stays", x.feed(BLANKS, BLANKS, BLANKS, BLANKS, BLANKS), 40);
        Check.due("text(40)", x.text(40), 2);
        Check.due("as fed", x.named(Check.letters("b")), 0);
    }

    private static void fault() {
        Doc.promise(4, "Of the latest text() that was not -2, what 0: its FAULT (0), 1: its place (NONE without).");
        MoodAnchor x = new MoodAnchor();
        Check.due("fault(0) of none", x.fault(0), 0);
        Check.due("fault(1) of none", x.fault(1), -1);
        Check.tell(x, "bay a;ship b;");
        Check.due("fault(0)", x.fault(0), 4);
        Check.due("fault(1)", x.fault(1), 11);
        Check.due("text(-1)", x.text(-1), -2);
        Check.due("text(1)", x.text(1), -2);
        Check.due("fault(0) of the one ahead", x.fault(0), 4);
        Check.due("fault(1) of the one ahead", x.fault(1), 11);
        Check.tell(x, "!");
        Check.due("fault(0) of the latest", x.fault(0), 1);
        Check.due("fault(1) of the latest", x.fault(1), 0);
        Check.tell(x, "bay a;");
        Check.due("fault(0) without", x.fault(0), 0);
        Check.due("fault(1) without", x.fault(1), -1);
        x.go(3);
        x.keep();
        Check.tell(x, "wind 99;");
        x.back();
        Check.due("fault(0)", x.fault(0), 2);
        Doc.promise(4, "NONE for another what.");
        for (int what : ODD) {
            Check.due("fault(" + what + ")", x.fault(what), -1);
        }
        Check.due("fault(-1)", x.fault(-1), -1);
    }

    private static void named() {
        Doc.promise(5, "The number of a BAY by its letters, 5 bits each (a is 1; the first one highest of six, "
            + "0 behind the last one);");
        MoodAnchor x = Check.told("bay z;bay a;bay abcdef;bay zzzzzz;bay ab;bay zz;bay aaaaaa;bay b;");
        Check.due("z", x.named(26 << 25), 0);
        Check.due("a", x.named(1 << 25), 1);
        Check.due("abcdef", x.named(1 << 25 | 2 << 20 | 3 << 15 | 4 << 10 | 5 << 5 | 6), 2);
        Check.due("zzzzzz", x.named(26 * 34636833), 3);
        Check.due("ab", x.named(1 << 25 | 2 << 20), 4);
        Check.due("zz", x.named(26 << 25 | 26 << 20), 5);
        Check.due("aaaaaa", x.named(34636833), 6);
        Check.due("b, the eighth", x.named(2 << 25), 7);
        Doc.promise(5, "NONE: there is none such.");
        int[] none = {0, 1, -1, 3 << 25, 1 << 25 | 1 << 20, 1 << 25 | 2 << 20 | 3 << 15, 1 << 25 | 2, 1 << 20, 26,
            1 << 25 | 1 << 30, 1 << 25 | 1 << 31, -2147483648, 2147483647, 27 << 25, 34636832};
        for (int letters : none) {
            Check.due("named(" + letters + ")", x.named(letters), -1);
        }
        Check.tell(x, "bay a;");
        Check.due("one of the text ahead", x.named(26 << 25), -1);
    }

    private static void lines() {
        Doc.term(3, "A TEXT: { LINE ';' }.");
        Check.lines("", 0);
        Check.lines("bay a;", 1);
        Check.fault("bay a", 1, 5);
        Check.fault("bay a bay b;", 1, 6);
        Check.fault(";", 1, 0);
        Check.fault("bay a;;", 1, 6);
        Doc.term(3, "LINE: bay W | lane W W N | deed W N N | wind N | ship W | reach N | trust N | seed N | law RULE E.");
        String two = "bay a;bay b;";
        String[] good = {"bay c;", "lane a b 4;", "deed a 3 4;", "wind 4;", "ship b;", "reach 4;", "trust 4;", "seed 4;",
            "law hold 4;"};
        for (String line : good) {
            Check.lines(two + line, 3);
            Check.fault(two + line.replace(";", " a;"), 1, 12 + line.length());
            Check.fault(two + line.replace(";", " 1;"), 1, 12 + line.length());
            Check.fault(two + line.replaceAll(" [^ ]*;", ";"), 1, 12 + line.lastIndexOf(' '));
            Check.fault(two + line.replaceAll(" [^ ]*;", ""), 1, 12 + line.lastIndexOf(' '));
        }
        Check.fault(two + "lane a 4;", 1, 19);
        Check.fault(two + "lane 4 a b;", 1, 17);
        Check.fault(two + "deed 3 4 a;", 1, 17);
        Check.fault(two + "deed a b 4;", 1, 19);
        Check.fault(two + "ship 1;", 1, 17);
        Check.fault(two + "wind a;", 1, 17);
        Check.fault(two + "a b;", 1, 12);
        Check.fault(two + "4;", 1, 12);
        Check.fault(two + "(bay c);", 1, 12);
        for (int word = 9; word < LANGUAGE.length; word++) {
            Check.fault(two + LANGUAGE[word] + " 4;", 1, 12);
        }
        Doc.term(3, "RULE: fond | hold | gain.");
        Check.lines("law fond 1;law hold 1;law gain 1;", 3);
        Check.fault("law a 1;", 1, 4);
        Check.fault("law 1;", 1, 4);
        Check.fault("law ;", 1, 4);
        for (String word : LANGUAGE) {
            if (!word.equals("fond") && !word.equals("hold") && !word.equals("gain")) {
                Check.fault("law " + word + " 1;", 1, 4);
            }
        }
    }

    private static void words() {
        Doc.term(3, "Words: small letters in a row;");
        Check.fault("bay A;", 1, 4);
        Check.fault("bay aB;", 1, 5);
        Check.fault("Bay a;", 1, 0);
        Check.fault("bay a`;", 1, 5);
        Check.fault("bay a{;", 1, 5);
        Check.fault("bay a_b;", 1, 5);
        Check.fault("baya;", 1, 0);
        Check.fault("ba y a;", 1, 0);
        Check.fault("bay a b;", 1, 6);
        Check.lines("bay a;bay z;bay aa;bay az;", 4);
        Doc.term(3, "W: one of 1 .. 6 letters, none of those of the language;");
        Check.lines("bay a;bay abcdef;bay zzzzzz;", 3);
        Check.fault("bay ;", 1, 4);
        Check.fault("bay abcdefg;", 1, 4);
        Check.fault("bay aaaaaaaaaaaaaaaaaaaaaaaaaaaaaaaaaaaaa;", 1, 4);
        for (String word : LANGUAGE) {
            Check.fault("bay " + word + ";", 1, 4);
            Check.fault("bay a;ship " + word + ";", 1, 11);
            Check.fault("bay a;deed " + word + " 1 1;", 1, 11);
            Check.fault("bay a;lane " + word + " a 1;", 1, 11);
            Check.fault("bay a;lane a " + word + " 1;", 1, 13);
            Check.lines("bay " + word + "x;bay x" + word + ";ship x" + word + ";", 3);
        }
        Doc.term(3, "Blanks 10, 32.");
        Check.lines(" \n bay\n\na  ; \n", 1);
        Check.lines("bay a;bay b;lane a b2;reach3;law hold\n1<2and(3)or\nnot(4);", 5);
        for (int sign : new int[] {0, 9, 11, 13, 31, 33, 127, 128, 138, 160, 255}) {
            Check.fault("bay a;" + (char) sign + "bay b;", 1, 6);
            Check.fault("bay" + (char) sign + "a;", 1, 3);
        }
    }

    private static void numbers() {
        Doc.term(3, "N: digits.");
        Check.lines("wind 0;wind 00000000000000000000000000000009;", 2);
        Check.due("leading 0", Check.told("wind 0007;").wind(0), 7);
        Check.fault("wind -1;", 1, 5);
        Check.fault("wind +1;", 1, 5);
        Check.fault("wind 1.5;", 1, 6);
        Check.fault("wind 1 2;", 1, 7);
        Check.fault("wind 0x1;", 1, 6);
        Check.fault("wind /;", 1, 5);
        Check.fault("wind :;", 1, 5);
        Check.lines("bay a;bay b;deed a 1 2;", 3);
        // What a wrap-around would take for a small number.
        for (String huge : new String[] {"4294967297", "18446744073709551617", "2147483648", "9999999999", "1000000",
            "1000001", "10000000000000000000000000000000000000000000001"}) {
            Check.fault("wind " + huge + ";", 2, 5);
            Check.fault("seed " + huge + ";", 2, 5);
            Check.fault("law fond " + huge + ";", 2, 9);
        }
    }

    private static void limits() {
        Doc.term(36, "BAYS, at most 8.");
        Check.due("count(0)", Check.told(EIGHT).count(0), 8);
        Check.fault(EIGHT + "bay i;", 2, 48);
        Doc.term(7, "LANES, at most 12: of two unlike BAYS (each two once, both ways), DAYS 1 .. 9.");
        MoodAnchor x = Check.told(TWELVE);
        Check.due("count(1)", x.count(1), 12);
        Check.fault(TWELVE + "lane b h 1;", 2, TWELVE.length());
        Check.due("the first", x.lane(0, 1), 1);
        Check.due("both ways", x.lane(1, 0), 1);
        Check.due("the last", x.lane(1, 6), 9);
        Check.due("both ways", x.lane(6, 1), 9);
        Check.fault("bay a;bay b;lane a a 1;", 5, 19);
        Check.fault("bay a;bay b;lane a b 1;lane a b 2;", 3, 30);
        Check.fault("bay a;bay b;lane a b 1;lane b a 2;", 3, 30);
        Check.fault("bay a;bay b;lane a b 0;", 2, 21);
        Check.fault("bay a;bay b;lane a b 10;", 2, 21);
        Doc.term(8, "DEEDS, at most 12: at a BAY, on a DATE 0 .. 99, JOY 0 .. 9.");
        String deeds = "bay a;deed a 0 0;" + Check.repeat("deed a 99 9;", 11);
        MoodAnchor y = Check.told(deeds);
        Check.due("count(2)", y.count(2), 12);
        Check.due("DATE 0", y.deed(0, 1), 0);
        Check.due("JOY 0", y.deed(0, 2), 0);
        Check.due("DATE 99", y.deed(11, 1), 99);
        Check.due("JOY 9", y.deed(11, 2), 9);
        Check.fault(deeds + "deed a 1 1;", 2, deeds.length());
        Check.fault("bay a;deed a 100 1;", 2, 13);
        Check.fault("bay a;deed a 99 10;", 2, 16);
        Doc.term(9, "WINDS, at most 20: of DATE 0 on, 0 .. 9 (0 behind those told).");
        String winds = Check.repeat("wind 0;", 10) + Check.repeat("wind 9;", 10);
        MoodAnchor z = Check.told(winds);
        Check.due("count(3)", z.count(3), 20);
        Check.due("wind(0)", z.wind(0), 0);
        Check.due("wind(10)", z.wind(10), 9);
        Check.due("wind(19)", z.wind(19), 9);
        Check.due("wind(20)", z.wind(20), 0);
        Check.due("wind(1) behind one", Check.told("wind 9;").wind(1), 0);
        Check.due("wind(0) of none", Check.told("").wind(0), 0);
        Check.fault(winds + "wind 1;", 2, winds.length());
        Check.fault("wind 10;", 2, 5);
    }

    private static void settings() {
        Doc.term(36, "ship: in which BAY (the first one without).");
        Check.due("without", Check.told("bay a;bay b;").count(6), 0);
        Check.due("the second one", Check.told("bay a;bay b;ship b;").count(6), 1);
        Check.due("the first one", Check.told("bay a;ship a;bay b;").count(6), 0);
        Check.due("the last one", Check.told(EIGHT + "ship h;").count(6), 7);
        Doc.term(18, "reach: a voyage takes no LANE longer than 1 .. 9 (9).");
        String lanes = "bay a;bay b;bay c;bay d;lane a b 1;lane a c 2;lane a d 9;";
        Check.due("reach 1", Check.told(lanes + "reach 1;").never(), 12);
        Check.due("reach 2", Check.told(lanes + "reach 2;").never(), 8);
        Check.due("reach 8", Check.told(lanes + "reach 8;").never(), 8);
        Check.due("reach 9", Check.told(lanes + "reach 9;").never(), 0);
        Check.due("without", Check.told(lanes).never(), 0);
        Check.fault("reach 0;", 2, 6);
        Check.fault("reach 10;", 2, 6);
        Doc.term(22, "trust: of a hundred 0 .. 100 (50).");
        Check.due("trust 0", Check.told("trust 0;").copies(1, 0), 0);
        Check.due("trust 1", Check.told("trust 1;").copies(1, 1), 100);
        Check.due("trust 100", Check.told("trust 100;").copies(1, 1), 1);
        Check.due("without", Check.told("").copies(1, 1), 2);
        Check.fault("trust 101;", 2, 6);
        Doc.term(16, "seed: 0 .. 99999 (0).");
        Check.fault("seed 100000;", 2, 5);
        for (int seed : new int[] {0, 1, 99998, 99999}) {
            Check.due("seed " + seed, DaySentences.heldByCopy("seed " + seed + ";", 60), DaySentences.heldByHand(seed, 50, 60));
        }
        Check.due("without", DaySentences.heldByCopy("", 60), DaySentences.heldByHand(0, 50, 60));
        Doc.term(5, "All numbered as they come; BAYS have names.");
        MoodAnchor x = Check.told("bay z;bay a;deed a 5 1;deed z 2 2;deed a 5 3;wind 3;bay m;wind 1;");
        Check.due("named(z)", x.named(Check.letters("z")), 0);
        Check.due("named(a)", x.named(Check.letters("a")), 1);
        Check.due("named(m)", x.named(Check.letters("m")), 2);
        for (int deed = 0; deed < 3; deed++) {
            Check.due("JOY of " + deed, x.deed(deed, 2), deed + 1);
        }
        Check.due("wind(1)", x.wind(1), 1);
    }

    private static void tokensThatAreNone() {
        Doc.term(4, "1 a TOKEN that is none (a word of more than 6 letters that is none of the language, too)");
        for (String sign : new String[] {"!", "\"", "#", "$", "%", "&", "'", ",", ".", ":", "?", "@", "A", "Z", "[", "\\",
            "]", "^", "_", "`", "{", "|", "}", "~", "\t", "\r", "\0", "\u0080", "\u00ff"}) {
            Check.fault(sign, 1, 0);
            Check.fault("bay a;" + sign, 1, 6);
            Check.fault("bay " + sign + ";", 1, 4);
            Check.fault("bay a" + sign + ";", 1, 5);
            Check.fault("law fond 1" + sign + ";", 1, 10);
            Check.fault("law fond 1+" + sign + ";", 1, 11);
        }
        Check.fault("bay abcdefg;", 1, 4);
        Check.fault("abcdefg;", 1, 0);
        Check.fault("bay a;ship aaaaaaa;", 1, 11);
        Check.fault("bay a;lane aaaaaaa a 1;", 1, 11);
        Check.fault("bay a;lane a aaaaaaa 1;", 1, 13);
        Check.fault("bay a;deed aaaaaaa 1 1;", 1, 11);
        Check.fault("law holdhold 1;", 1, 4);
        Check.fault("law hold joysjoys;", 1, 9);
    }

    private static void tokensOutOfPlace() {
        Doc.term(4, "or can't stand there (the length, if more must come).");
        String[] cut = {"bay", "bay ", "bay \n", "bay a", "bay a ", "lane", "lane a", "lane a b", "lane a b 1", "deed",
            "deed a", "deed a 1", "deed a 1 1", "wind", "wind 1", "ship", "ship a", "reach", "reach 1", "trust", "seed",
            "law", "law fond", "law fond 1", "law fond 1+", "law fond not", "law fond (", "law fond (1", "law fond (1)",
            "law fond 1<", "law fond 1<=", "law fond 1<>", "law fond 1>=", "law fond 1=", "law fond 1>",
            "law fond 1 and", "law fond 1 or ", "law fond ((1)"};
        for (String text : cut) {
            String all = text.startsWith("bay") ? text : "bay a;bay b;" + text;
            Check.fault(all, 1, all.length());
        }
        Check.fault("bay a;lane", 1, 10);
        Check.fault("bay 1;", 1, 4);
        Check.fault("bay a1;", 1, 5);
        Check.fault("bay ;", 1, 4);
        Check.fault("bay <=;", 1, 4);
        Check.fault("bay a;bay b;lane a b b;", 1, 21);
        Check.fault("law fond bay;", 1, 9);
        Check.fault("law fond a;", 1, 9);
        Check.fault("law fond fond;", 1, 9);
        Check.fault("law fond 1 bay;", 1, 11);
    }

    private static void tooMuch() {
        Doc.term(4, "2 too much (at it): a number beyond what is said,");
        Check.fault("bay a;bay b;lane a b 0;", 2, 21);
        Check.fault("bay a;bay b;lane a b 00;", 2, 21);
        Check.fault("bay a;bay b;lane a b 10;", 2, 21);
        Check.fault("bay a;deed a 100 1;", 2, 13);
        Check.fault("bay a;deed a 99 10;", 2, 16);
        Check.fault("wind 10;", 2, 5);
        Check.fault("reach 0;", 2, 6);
        Check.fault("reach 10;", 2, 6);
        Check.fault("trust 101;", 2, 6);
        Check.fault("seed 100000;", 2, 5);
        Check.fault("law fond 10000;", 2, 9);
        Check.fault("law fond 1+(2*10000);", 2, 14);
        Check.lines("bay a;bay b;lane a b 9;deed a 99 9;deed a 0 0;wind 9;wind 0;reach 9;trust 100;seed 99999;", 10);
        Check.lines("bay a;bay b;lane a b 1;reach 1;trust 0;seed 0;law fond 9999;law hold 0;", 8);
        Doc.term(4, "a ninth bay and so on (at the word of the LINE),");
        Check.fault(EIGHT + " bay i;", 2, 49);
        Check.fault(EIGHT + "bay a;", 2, 48);
        Check.fault(EIGHT + "bay", 2, 48);
        Check.fault(EIGHT + "bay !", 2, 48);
        String again = TWELVE + "wind 1;";
        Check.fault(again + "lane a b 1;", 2, again.length());
        Check.fault(again + "lane b b 1;", 2, again.length());
        Check.fault(again + "lane x", 2, again.length());
        String deeds = "bay a;" + Check.repeat("deed a 1 1;", 12);
        Check.fault(deeds + "deed x 1 1;", 2, deeds.length());
        Check.fault(deeds + "deed", 2, deeds.length());
        String winds = Check.repeat("wind 1;", 20);
        Check.fault(winds + "wind 1;", 2, winds.length());
        Check.fault(winds + "\n wind 99;", 2, winds.length() + 2);
        Doc.term(4, "a ninth '(' open,");
        Check.lines("law fond " + Check.repeat("(", 8) + "1" + Check.repeat(")", 8) + ";", 1);
        Check.fault("law fond " + Check.repeat("(", 9) + "1" + Check.repeat(")", 9) + ";", 2, 17);
        Check.fault("law fond " + Check.repeat("(", 9), 2, 17);
        Check.lines("law fond " + Check.repeat("(1)+", 20) + "1;", 1);
        Check.lines("law fond " + Check.repeat("(", 7) + "(1)+(2)" + Check.repeat(")", 7) + ";", 1);
        Check.fault("law fond (1)+" + Check.repeat("(1+", 8) + "(2);", 2, 13 + 24);
        Check.lines("law fond " + Check.repeat("(", 8) + "1" + Check.repeat(")", 8) + ";law hold " + Check.repeat("(", 8)
            + "1" + Check.repeat(")", 8) + ";", 2);
    }

    private static void knots() {
        Doc.term(4, "a 65th KNOT of all E (N, NAMES, signs, not, and, or: one each).");
        Check.lines("law fond " + Check.repeat("not ", 63) + "1;", 1);
        Check.fault("law fond " + Check.repeat("not ", 64) + "1;", 2, 9 + 256);
        Check.fault("law fond " + Check.repeat("not ", 65) + "1;", 2, 9 + 256);
        Check.lines("law fond not " + Check.repeat("1+", 31) + "1;", 1);
        Check.fault("law fond " + Check.repeat("1+", 32) + "1;", 2, 9 + 64);
        Check.fault("law fond " + Check.repeat("1+", 32) + "joys;", 2, 9 + 64);
        Check.fault("law fond " + Check.repeat("1+", 32) + "10000;", 2, 9 + 64);
        Check.fault("law fond not " + Check.repeat("1<=2 and ", 15) + "date-mood/here;", 2, 13 + 15 * 9 + 9);
        Check.fault("law fond not " + Check.repeat("1 or ", 31) + "2-3;", 2, 13 + 155 + 1);
        String half = "law fond " + Check.repeat("1+", 15) + "1;law gain 2;";
        Check.lines(half + "law hold " + Check.repeat("1*", 15) + "joys;", 3);
        Check.lines(half + "law hold " + Check.repeat("((1))*", 15) + "(joys);", 3);
        Check.fault(half + "law hold " + Check.repeat("1*", 16) + "1;", 2, half.length() + 9 + 32);
        Check.due("count(4)", Check.told("law fond not(1<2)and joys<>3 or 4;").count(4), 10);
        Check.due("count(4)", Check.told("law fond 1;law hold (date);law gain 2>=3;").count(4), 5);
        Check.due("count(4) of 64", Check.told("law fond " + Check.repeat("not ", 63) + "1;").count(4), 64);
    }

    private static void toldAlready() {
        Doc.term(4, "3 told already: a BAY's name (at W),");
        Check.fault("bay a;bay a;", 3, 10);
        Check.fault("bay abcdef;bay b;bay  abcdef;", 3, 22);
        Check.lines("bay a;bay aa;bay ab;bay b;", 4);
        Doc.term(4, "a LANE of the same two (at the second W),");
        Check.fault("bay a;bay b;lane a b 1;lane a b 1;", 3, 30);
        Check.fault("bay a;bay b;lane a b 1;lane b  a 0;", 3, 31);
        Check.lines("bay a;bay b;bay c;lane a b 1;lane b c 1;lane c a 1;", 6);
        Doc.term(4, "ship, reach, trust, seed (at the word),");
        Check.fault("bay a;ship a;ship a;", 3, 13);
        Check.fault("bay a;ship a;ship b;", 3, 13);
        Check.fault("reach 1;reach 1;", 3, 8);
        Check.fault("reach 1;wind 2; reach 0;", 3, 16);
        Check.fault("trust 1;trust 1;", 3, 8);
        Check.fault("trust 50;trust", 3, 9);
        Check.fault("seed 0;seed 0;", 3, 7);
        Check.lines("bay a;ship a;reach 1;trust 1;seed 1;", 5);
        Doc.term(4, "a law of its RULE (at RULE).");
        for (String rule : new String[] {"fond", "hold", "gain"}) {
            Check.fault("law " + rule + " 1;law " + rule + " 2;", 3, 15);
            Check.fault("law " + rule + " 1;law  " + rule, 3, 16);
        }
        Check.lines("law gain 1;law hold 1;law fond 1;", 3);
    }

    private static void untold() {
        Doc.term(4, "4 a BAY that isn't told ahead (at W).");
        Check.fault("ship a;", 4, 5);
        Check.fault("ship a;bay a;", 4, 5);
        Check.fault("bay a;ship aa;", 4, 11);
        Check.fault("bay a;deed b 1 1;bay b;", 4, 11);
        Check.fault("bay a;lane b a 1;", 4, 11);
        Check.fault("bay a;lane a b 1;bay b;", 4, 13);
        Check.fault("bay a;lane b b 1;", 4, 11);
        Check.fault("bay abcdef;ship abcde;", 4, 16);
        Doc.term(4, "5 a LANE from a BAY to itself (at the second W).");
        Check.fault("bay a;lane a a 1;", 5, 13);
        Check.fault("bay a;bay b;lane b  b 0;", 5, 20);
        Check.fault("bay a;bay b;lane a b 1;lane b b 1;", 5, 30);
    }

    private static void firstAlongTheText() {
        Doc.term(4, "FAULTS, the first along the text (of one place the least), with its place:");
        Check.fault("wind 10;!", 2, 5);
        Check.fault("!wind 10;", 1, 0);
        Check.fault("bay a;bay a!", 3, 10);
        Check.fault("ship a!", 4, 5);
        Check.fault("bay a;lane a a!", 5, 13);
        Check.fault("bay a;lane b b 0;", 4, 11);
        Check.fault("bay a;lane a b 0;", 4, 13);
        Check.fault("bay a;deed b 100 10;", 4, 11);
        Check.fault("bay a;deed a 100 10;", 2, 13);
        Check.fault("reach 1;reach 0;", 3, 8);
        Check.fault("law fond 10000<1<2;", 2, 9);
        Check.fault("law fond 1<2<10000;", 1, 12);
        Check.fault("bay a;wind 1;bay a;wind 10;", 3, 17);
        // Of one place: what can't stand there is told ahead of what is too much.
        Check.fault("bay a;lane a 99999;", 1, 13);
        Check.fault("law fond " + Check.repeat("1+", 32) + "not 1;", 1, 9 + 64);
        Check.fault("law fond " + Check.repeat("not ", 63) + "1 1;", 1, 9 + 254);
        Check.fault("law fond " + Check.repeat("not ", 63) + "1 10000;", 1, 9 + 254);
        Check.fault("law fond " + Check.repeat("not ", 61) + "1<2<3;", 1, 9 + 247);
        Check.fault("law fond " + Check.repeat("(", 8) + "1(2;", 1, 18);
    }
}
