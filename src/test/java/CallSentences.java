/** Promises 26 to 30, 33 to 36, the terms of notes and part 4: notes, undoing, images, counts. */
final class CallSentences {
    private static final int[] ODD = {-2147483648, -1000, -2, -1, 2147483647};
    private static final int ALL = 1023;
    private static final String SEA = "bay lagos;bay riga;bay cork;lane lagos riga 2;lane riga cork 5;"
        + "deed lagos 0 3;deed riga 2 1;wind 2;wind 3;wind 1;wind 4;ship lagos;trust 40;";

    private CallSentences() {
    }

    static void test() {
        notesOfTheText();
        struck();
        was();
        tellsMost();
        note();
        out();
        known();
        wasAndTells();
        undoable();
        undo();
        imageKeeps();
        keepAndBack();
        countOfText();
        countOfShip();
        countOfNights();
        callsOfOneObject();
    }

    private static void notesOfTheText() {
        Doc.term(26, "NOTES, at most 24, numbered from 0 on: FORESEEN from the TEXT (ahead of DATE 0) it held in a BAY on a DATE "
            + "0 .. 99, or not.");
        MoodAnchor x = Check.told("bay a;deed a 5 3;law hold joys>3;");
        x.kind(0, 9);
        x.go(9);
        for (int i = 0; i < 24; i++) {
            Check.due("note", x.note(0, i % 2 == 0 ? 99 : 0, i % 2 == 0), i);
        }
        Check.due("a 25th", x.note(0, 0, false), -1);
        Check.due("a 25th that strikes", x.out(0), -1);
        Check.due("from the TEXT, whatever was done and went by", x.was(0), ALL - 15);
        MoodAnchor first = Check.told("bay a;deed a 0 3;deed a 1 3;law hold joys>5;");
        first.note(0, 0, true);
        Check.due("DEEDS up to that DATE: DEED 0", first.was(0), ALL - 63);
        Check.due("DEEDS up to that DATE: DEED 1", first.was(1), 0);
        MoodAnchor here = Check.told("bay a;deed a 0 1;law hold here or joys>4;");
        here.note(0, 0, true);
        Check.due("here 0", here.was(0), ALL - 31);
        MoodAnchor again = Check.told("bay a;deed a 3 3;law hold many=1 and joys>2 or date=1 and last<99;");
        again.note(0, 3, true);
        again.note(0, 2, false);
        again.note(0, 1, false);
        for (int i = 0; i < 3; i++) {
            Check.due("MANY, LAST begin anew each time", again.was(0), ALL - 7);
            again.mood(0, 5);
        }
        MoodAnchor last = Check.told("bay a;deed a 0 3;law hold last=99 and joys>2;");
        last.note(0, 99, true);
        Check.due("LAST 99 by DATE 99", last.was(0), ALL - 7);
    }

    private static void struck() {
        Doc.term(27, "A note may strike one ahead of it (STRUCK).");
        MoodAnchor x = Check.told("bay a;deed a 0 5;law hold joys>=5;");
        x.note(0, 0, true);
        Check.due("5 .. 9", x.was(0), ALL - 31);
        Check.due("out(0)", x.out(0), 1);
        Check.due("STRUCK", x.was(0), ALL);
        Check.due("none strikes itself", x.out(2), -1);
        Doc.term(28, "KNOWN by n (all at first): the first n that aren't STRUCK by one of these (what strikes may be STRUCK: then "
            + "it doesn't count; asked from the last one on).");
        MoodAnchor y = Check.told("bay a;deed a 0 5;law hold date=0 and joys>=5 or date=1 and joys<8;");
        y.note(0, 0, true);
        y.note(0, 1, true);
        Check.due("all at first", y.was(0), ALL - 31 - 768);
        Check.due("out(0) is 2", y.out(0), 2);
        Check.due("0 is STRUCK", y.was(0), ALL - 768);
        Check.due("out(2) is 3", y.out(2), 3);
        Check.due("what strikes is STRUCK", y.was(0), ALL - 31 - 768);
        Check.due("out(3) is 4", y.out(3), 4);
        Check.due("STRUCK thrice", y.was(0), ALL - 768);
        Check.due("out(1) is 5", y.out(1), 5);
        Check.due("both are STRUCK", y.was(0), ALL);
        int[] due = {ALL, ALL - 31, ALL - 31 - 768, ALL - 768, ALL - 31 - 768, ALL - 768, ALL};
        for (int n = 0; n <= 6; n++) {
            Check.due("known(" + n + ")", y.known(n), true);
            Check.due("by the first " + n, y.was(0), due[n]);
        }
        MoodAnchor twice = Check.told("bay a;deed a 0 5;law hold joys>=5;");
        twice.note(0, 0, true);
        twice.out(0);
        twice.out(0);
        twice.out(1);
        Check.due("one of two that strike it still counts", twice.was(0), ALL);
        twice.out(2);
        Check.due("none of them does", twice.was(0), ALL - 31);
    }

    private static void was() {
        Doc.term(29, "WAS of a DEED: JOYS 0 .. 9 (bits) it may have been of, in place of the one told, so that all KNOWN ones are "
            + "so.");
        MoodAnchor x = Check.told("bay a;bay b;deed a 3 5;deed b 0 2;wind 1;wind 1;wind 1;wind 4;");
        Check.due("without NOTES", x.was(0), ALL);
        x.note(0, 3, true);
        Check.due("4 .. 9", x.was(0), ALL - 15);
        Check.due("the other DEED", x.was(1), ALL);
        x.note(1, 0, false);
        Check.due("all must be so", x.was(0), 0);
        Check.due("0", x.was(1), 1);
        MoodAnchor y = Check.told("bay a;deed a 0 5;law hold joys=9;");
        y.note(0, 0, true);
        Check.due("9 alone", y.was(0), 512);
        MoodAnchor z = Check.told("bay a;deed a 0 5;law hold joys=0;");
        z.note(0, 0, true);
        Check.due("0 alone", z.was(0), 1);
        Check.due("the one told stays", z.deed(0, 2), 5);
        MoodAnchor place = Check.told("bay a;deed a 0 5;deed a 0 2;law hold joys=6;");
        place.note(0, 0, true);
        Check.due("in place of 5", place.was(0), 16);
        Check.due("in place of 2", place.was(1), 2);
    }

    private static void tellsMost() {
        Doc.term(30, "TELLS for a DEED: the DATE from its own on, 20 DAYS in all, on which of these JOYS that WAS it may be FORESEEN "
            + "from the TEXT those with which its BAY holds and those with which it doesn't are nearest to as many, of several "
            + "the first.");
        MoodAnchor x = Check.told("bay a;deed a 2 1;wind 0;wind 0;wind 9;wind 7;wind 4;wind 5;");
        Check.due("half of ten: 5 to 9 on 4", x.tells(0), 4);
        x.note(0, 4, false);
        Check.due("0 to 4 drag on 2 to 5: the first", x.tells(0), 2);
        MoodAnchor nearest = Check.told("bay a;deed a 0 1;law hold date=3 and joys>8 or date=4 and joys>7;");
        Check.due("two of ten", nearest.tells(0), 4);
        Check.due("one of ten", Check.told("bay a;deed a 0 1;law hold date=3 and joys>8;").tells(0), 3);
        MoodAnchor more = Check.told("bay a;deed a 0 1;law hold date=3 and joys<8 or date=4 and joys<7 or date=5 and joys>6;");
        Check.due("seven hold or three: as near, the first", more.tells(0), 4);
        MoodAnchor least = Check.told("bay a;deed a 0 1;law hold joys<2 and date=1 or joys=1 and date>1;");
        least.note(0, 1, true);
        Check.due("of 0 and 1 one", least.tells(0), 2);
        MoodAnchor most = Check.told("bay a;deed a 0 1;law hold joys>7 and date=1 or joys=8 and date>1;");
        most.note(0, 1, true);
        Check.due("of 8 and 9 one", most.tells(0), 2);
        Check.due("on its own DATE", Check.told("bay a;deed a 7 1;law hold date<>7 or joys>4;").tells(0), 7);
        Check.due("not ahead of it", Check.told("bay a;deed a 7 1;law hold date<>6 or many;").tells(0), 7);
        Check.due("the 20th DAY", Check.told("bay a;deed a 99 1;law hold date<118 or joys>4;").tells(0), 118);
        Check.due("not the 21st", Check.told("bay a;deed a 99 1;law hold date<119 or joys>4;").tells(0), 99);
        MoodAnchor later = Check.told("bay a;deed a 0 1;wind 9;wind 5;");
        int before = later.tells(0);
        later.go(5);
        Check.due("from the TEXT, whenever it is asked", later.tells(0), before);
        MoodAnchor both = Check.told("bay a;bay b;deed a 0 1;deed b 0 1;wind 5;law hold joys>4 and date=joys/10+1;");
        Check.due("its own BAY", both.tells(1), 1);
    }

    private static void note() {
        Doc.promise(26, "A NOTE: its number;");
        MoodAnchor x = Check.told("bay a;bay b;deed b 0 4;");
        Check.due("note(0, 0)", x.note(0, 0, true), 0);
        Check.due("note(1, 99)", x.note(1, 99, true), 1);
        Check.due("out(0)", x.out(0), 2);
        Check.due("note(0, 0) again", x.note(0, 0, true), 3);
        Check.due("NOTES", x.count(13), 4);
        Doc.promise(26, "NONE: no such ones, or there are 24.");
        Check.due("note(2, 0)", x.note(2, 0, true), -1);
        Check.due("note(8, 0)", x.note(8, 0, true), -1);
        Check.due("note(0, 100)", x.note(0, 100, true), -1);
        for (int odd : ODD) {
            Check.due("note(" + odd + ", 0)", x.note(odd, 0, true), -1);
            Check.due("note(0, " + odd + ")", x.note(0, odd, false), -1);
        }
        Check.due("none came", x.count(13), 4);
        for (int i = 4; i < 24; i++) {
            Check.due("note " + i, x.note(0, 99, true), i);
        }
        Check.due("a 25th", x.note(0, 99, true), -1);
        Check.due("24", x.count(13), 24);
    }

    private static void out() {
        Doc.promise(27, "A note that strikes a NOTE: its number;");
        MoodAnchor x = Check.told("bay a;deed a 0 3;");
        x.note(0, 0, true);
        Check.due("out(0)", x.out(0), 1);
        Check.due("out(1)", x.out(1), 2);
        Check.due("out(0) again", x.out(0), 3);
        Check.due("they are NOTES, too", x.count(13), 4);
        Doc.promise(27, "NONE: no such NOTE, or there are 24.");
        Check.due("out(4)", x.out(4), -1);
        Check.due("out(24)", x.out(24), -1);
        for (int odd : ODD) {
            Check.due("out(" + odd + ")", x.out(odd), -1);
        }
        Check.due("none came", x.count(13), 4);
        for (int i = 4; i < 24; i++) {
            Check.due("out " + i, x.out(i - 1), i);
        }
        Check.due("a 25th", x.out(0), -1);
        Check.due("a 25th", x.out(23), -1);
        Check.due("24", x.count(13), 24);
        Check.due("without NOTES", Check.told("bay a;").out(0), -1);
    }

    private static void known() {
        Doc.promise(28, "KNOWN by n from now on (-1: by all, also those to come): true;");
        MoodAnchor x = Check.told("bay a;deed a 0 5;law hold joys>=5;");
        Check.due("known(0) of none", x.known(0), true);
        x.note(0, 0, true);
        Check.due("by 0 from now on", x.was(0), ALL);
        Check.due("known(1)", x.known(1), true);
        Check.due("by 1", x.was(0), ALL - 31);
        x.out(0);
        Check.due("by 1 from now on: those to come aren't", x.was(0), ALL - 31);
        Check.due("known(-1)", x.known(-1), true);
        Check.due("by all", x.was(0), ALL);
        x.out(1);
        Check.due("also those to come", x.was(0), ALL - 31);
        Check.due("known(3)", x.known(3), true);
        x.out(2);
        Check.due("by 3", x.was(0), ALL - 31);
        Check.due("known(-1)", x.known(-1), true);
        Check.due("by 4", x.was(0), ALL);
        Doc.promise(28, "false: no such n.");
        x.known(1);
        Check.due("known(5)", x.known(5), false);
        Check.due("known(24)", x.known(24), false);
        for (int odd : ODD) {
            Check.due("known(" + odd + ")", x.known(odd), odd == -1);
            x.known(1);
        }
        Check.due("known(5)", x.known(5), false);
        Check.due("by 1 as ahead", x.count(14), 1);
        Check.due("without NOTES", Check.told("bay a;").known(1), false);
    }

    private static void wasAndTells() {
        MoodAnchor x = Check.told("bay a;deed a 0 5;deed a 3 2;law hold joys>=5;");
        Doc.promise(29, "WAS (bits);");
        Check.due("was(0)", x.was(0), ALL);
        x.note(0, 0, false);
        Check.due("was(0)", x.was(0), 31);
        Check.due("was(1)", x.was(1), 0);
        Doc.promise(29, "NONE: no such DEED.");
        Check.due("was(2)", x.was(2), -1);
        Check.due("was(12)", x.was(12), -1);
        Doc.promise(30, "TELLS (a DATE);");
        Check.due("tells(0)", x.tells(0), 3);
        Doc.promise(30, "-2: WAS is none;");
        Check.due("tells(1)", x.tells(1), -2);
        x.known(0);
        Check.due("tells(1) by no NOTES", x.tells(1), 3);
        Doc.promise(30, "NONE: no such DEED.");
        Check.due("tells(2)", x.tells(2), -1);
        Check.due("tells(12)", x.tells(12), -1);
        for (int odd : ODD) {
            Check.due("was(" + odd + ")", x.was(odd), -1);
            Check.due("tells(" + odd + ")", x.tells(odd), -1);
        }
        Check.due("without DEEDS", Check.told("bay a;").tells(0), -1);
    }

    private static void undoable() {
        Doc.term(33, "Sailing, kindnesses, the COPY by call can be undone, the latest first (20 at most), if no night went by since.");
        MoodAnchor x = Check.told(SEA);
        x.kind(0, 4);
        x.copy(true);
        x.sail(1);
        x.kind(0, 5);
        Check.due("undo the kindness", x.undo(), 3);
        Check.due("JOYS", x.bay(0, 0), 4);
        Check.due("MANY", x.bay(0, 2), 1);
        Check.due("LAST", x.bay(0, 1), 0);
        Check.due("undo the sailing", x.undo(), 2);
        Check.due("it lies again", x.count(6), 0);
        Check.due("bay(0, 3)", x.bay(0, 3), 1);
        Check.due("it sails to none, arrives never", x.count(7) + x.count(8), -2);
        Check.due("undo the COPY", x.undo(), 1);
        Check.due("up", x.count(12), 0);
        Check.due("undo the first", x.undo(), 0);
        Check.due("JOYS", x.bay(0, 0), 0);
        Check.due("LAST", x.bay(0, 1), 99);
        Check.due("MANY", x.bay(0, 2), 0);
        x.kind(0, 1);
        Check.due("go(0)", x.go(0), 0);
        Check.due("no night went by", x.undo(), 0);
        x.kind(0, 1);
        x.copy(true);
        x.go(1);
        Check.due("a night went by", x.undo(), -1);
        Check.due("the COPY is down", x.count(12), 1);
        x.copy(false);
        Check.due("only what was done since", x.undo(), 0);
        Check.due("the COPY is down", x.count(12), 1);
        for (int i = 1; i <= 25; i++) {
            x.kind(2, 1);
            Check.due("20 at most", x.count(15), Math.min(20, i));
        }
        for (int left = 19; left >= 0; left--) {
            Check.due("the latest first", x.undo(), left);
            Check.due("JOYS", x.bay(2, 0), left + 5);
        }
        Check.due("five stay", x.bay(2, 2), 5);
        Check.due("no more", x.undo(), -1);
        MoodAnchor many = Check.told(SEA);
        for (int i = 0; i < 30; i++) {
            many.kind(i % 3, i % 10);
        }
        for (int i = 29; i >= 10; i--) {
            many.undo();
            Check.due("MANY", many.bay(0, 2) + many.bay(1, 2) + many.bay(2, 2), i);
            Check.due("MANY of one", many.bay(i % 3, 2), i / 3);
            Check.due("JOYS", many.bay(0, 0) + many.bay(1, 0) + many.bay(2, 0), i / 10 * 45 + (i % 10) * (i % 10 - 1) / 2);
        }
        MoodAnchor ago = Check.told(SEA);
        ago.kind(1, 2);
        ago.go(5);
        ago.copy(true);
        ago.kind(2, 1);
        ago.kind(1, 1);
        for (int i = 0; i < 18; i++) {
            ago.copy(i % 2 == 1);
        }
        Check.due("20 of 21", ago.count(15), 20);
        for (int i = 0; i < 19; i++) {
            ago.undo();
        }
        Check.due("LAST as ahead", ago.bay(1, 1), 3);
        ago.undo();
        Check.due("LAST as ahead", ago.bay(2, 1), 99);
        Check.due("no more", ago.undo(), -1);
        MoodAnchor mixed = Check.told(SEA);
        mixed.sail(1);
        mixed.copy(true);
        for (int i = 0; i < 19; i++) {
            mixed.kind(1, 1);
        }
        for (int i = 0; i < 20; i++) {
            mixed.undo();
        }
        Check.due("the 20 latest: the COPY", mixed.count(12), 0);
        Check.due("the 21st stays: it is at sea", mixed.undo() + mixed.count(6), -3);
    }

    private static void undo() {
        MoodAnchor x = Check.told(SEA);
        Doc.promise(33, "The latest is undone: how many are left;");
        x.copy(true);
        x.kind(1, 3);
        Check.due("undo()", x.undo(), 1);
        Check.due("the latest", x.bay(1, 0) * 10 + x.count(12), 1);
        Check.due("undo()", x.undo(), 0);
        x.kind(0, 2);
        Check.due("one more done", x.count(15), 1);
        Check.due("undo()", x.undo(), 0);
        Doc.promise(33, "NONE: none.");
        Check.due("undo()", x.undo(), -1);
        x.sail(9);
        x.sail(2);
        x.sail(0);
        x.kind(0, 10);
        x.kind(3, 1);
        x.copy(false);
        Check.due("what was not done can't be undone", x.undo(), -1);
        Check.due("nor of a new one", new MoodAnchor().undo(), -1);
        x.note(0, 0, true);
        x.known(0);
        x.keep();
        Check.due("nor NOTES, KNOWN, IMAGES", x.undo(), -1);
    }

    private static void imageKeeps() {
        Doc.term(34, "An IMAGE keeps all but NOTES.");
        MoodAnchor x = Check.told(SEA + "seed 5;law gain 3;");
        x.go(2);
        x.kind(2, 7);
        x.sail(1);
        x.copy(true);
        x.go(1);
        x.keep();
        int[] counts = new int[16];
        for (int what = 0; what < 16; what++) {
            counts[what] = x.count(what);
        }
        int[] bays = new int[12];
        for (int i = 0; i < 12; i++) {
            bays[i] = x.bay(i / 4, i % 4);
        }
        x.note(0, 0, true);
        x.go(20);
        int held = x.count(9);
        x.copy(false);
        x.kind(0, 9);
        x.kind(2, 9);
        x.sail(2);
        x.note(0, 1, false);
        x.known(1);
        Check.due("back()", x.back(), 3);
        for (int what = 0; what < 16; what++) {
            boolean isNotes = what == 13 || what == 14;
            Check.due("count(" + what + ")", x.count(what), isNotes ? 15 - what : counts[what]);
        }
        for (int i = 0; i < 12; i++) {
            Check.due("bay(" + i / 4 + ", " + i % 4 + ")", x.bay(i / 4, i % 4), bays[i]);
        }
        x.go(20);
        Check.due("numbers, too", x.count(9), held);
    }

    private static void keepAndBack() {
        MoodAnchor x = Check.told(SEA);
        Doc.promise(35, "NONE: there is none.");
        Check.due("back()", x.back(), -1);
        Check.due("nothing changed", x.count(5), 0);
        Check.due("of a new one", new MoodAnchor().back(), -1);
        Doc.promise(34, "An IMAGE is kept (in place of one ahead): which DATE it is.");
        Check.due("keep()", x.keep(), 0);
        x.go(4);
        x.kind(0, 1);
        Check.due("keep()", x.keep(), 4);
        Check.due("what can be undone stays", x.count(15), 1);
        x.go(3);
        Check.due("back() to the latest", x.back(), 4);
        Check.due("of a new one", new MoodAnchor().keep(), 0);
        Doc.promise(35, "All (but NOTES) is as in the IMAGE (nothing to undo then): which DATE it is;");
        Check.due("nothing to undo", x.undo(), -1);
        x.go(2);
        x.copy(true);
        Check.due("back() again", x.back(), 4);
        Check.due("the COPY", x.count(12), 0);
        Check.due("nothing to undo", x.count(15), 0);
        Check.due("back() at once", x.back(), 4);
        x.kind(0, 1);
        int joys = x.bay(0, 0);
        x.undo();
        Check.due("what is done behind it can be undone", x.bay(0, 0), joys - 1);
        x.go(1);
        int kept = x.keep();
        x.kind(1, 5);
        x.back();
        Check.due("the IMAGE of a later DATE", x.count(5), kept);
        Check.due("JOYS", x.bay(1, 0), 1);
        Check.tell(x, "bay a");
        Check.due("a TEXT with a FAULT leaves it", x.back(), kept);
        Check.tell(x, "bay a;");
        Check.due("another drops it", x.back(), -1);
    }

    private static void countOfText() {
        Doc.promise(36, "0 BAYS, 1 LANES, 2 DEEDS, 3 WINDS, 4 KNOTS, 5 the DATE,");
        MoodAnchor x = Check.told(SEA + "law gain 1+2;law hold mood>=gale;");
        int[] due = {3, 2, 2, 4, 6, 0};
        for (int what = 0; what <= 5; what++) {
            Check.due("count(" + what + ")", x.count(what), due[what]);
        }
        x.go(7);
        Check.due("the DATE", x.count(5), 7);
        for (int what = 0; what <= 4; what++) {
            Check.due("count(" + what + ")", x.count(what), due[what]);
        }
        Doc.promise(36, "NONE for another what.");
        Check.due("count(16)", x.count(16), -1);
        for (int odd : ODD) {
            Check.due("count(" + odd + ")", x.count(odd), -1);
        }
    }

    private static void countOfShip() {
        Doc.promise(36, "6 the BAY the ship lies in (at sea: -2; NONE without BAYS), 7 the BAY it sails to (NONE: it lies), 8 when it "
            + "ARRIVES (NONE likewise),");
        MoodAnchor x = Check.told(SEA);
        int[][] due = {{0, -1, -1}, {-2, 1, 2}, {-2, 1, 2}, {-2, 1, 2}, {1, -1, -1}};
        for (int step = 0; step < due.length; step++) {
            if (step == 1) {
                x.sail(1);
            } else if (step > 1) {
                x.go(1);
            }
            for (int what = 6; what <= 8; what++) {
                Check.due("step " + step + ", count(" + what + ")", x.count(what), due[step][what - 6]);
            }
        }
        MoodAnchor none = new MoodAnchor();
        none.go(2);
        for (int what = 6; what <= 8; what++) {
            Check.due("without BAYS, count(" + what + ")", none.count(what), -1);
        }
        MoodAnchor zero = Check.told("bay a;bay b;lane a b 1;ship b;");
        zero.sail(0);
        Check.due("to the first one", zero.count(7), 0);
    }

    private static void countOfNights() {
        Doc.promise(36, "9 nights HELD, 10 ADRIFT, 11 at sea, 12 whether the COPY is down (1, 0), 13 NOTES, 14 by how many it is KNOWN, "
            + "15 what can be undone.");
        MoodAnchor x = Check.told("bay a;bay b;lane a b 3;wind 0;wind 9;wind 9;");
        x.go(3);
        x.sail(1);
        x.go(5);
        int[] due = {3, 2, 3, 0, 0, 0, 0};
        for (int what = 9; what <= 15; what++) {
            Check.due("count(" + what + ")", x.count(what), due[what - 9]);
        }
        x.copy(true);
        Check.due("down", x.count(12), 1);
        Check.due("to undo", x.count(15), 1);
        x.copy(false);
        Check.due("up", x.count(12), 0);
        Check.due("to undo", x.count(15), 2);
        x.note(0, 0, true);
        x.note(0, 1, true);
        x.out(0);
        Check.due("NOTES", x.count(13), 3);
        Check.due("KNOWN by all of them", x.count(14), 3);
        x.known(2);
        Check.due("KNOWN by 2", x.count(14), 2);
        x.note(0, 2, true);
        Check.due("NOTES", x.count(13), 4);
        Check.due("KNOWN by 2", x.count(14), 2);
        x.known(0);
        Check.due("KNOWN by 0", x.count(14), 0);
        x.known(4);
        Check.due("KNOWN by 4", x.count(14), 4);
        x.known(-1);
        x.note(0, 3, true);
        Check.due("KNOWN by all, also those to come", x.count(14), 5);
    }

    /** An object is used for 512 calls: the last ones answer as the first. */
    private static void callsOfOneObject() {
        Check.under("512 calls of one object");
        MoodAnchor x = Check.told(SEA);
        for (int i = 0; i < 125; i++) {
            Check.due("go(1)", x.go(1), i + 1);
            Check.due("kind(2, 1)", x.kind(2, 1), i + 1);
            Check.due("holds(2, date)", x.holds(2, i + 101), -1);
            Check.due("count(5)", x.count(5), i + 1);
        }
        Check.due("undo()", x.undo(), 0);
    }
}
