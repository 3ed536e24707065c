import java.util.NoSuchElementException;

/** The promises one by one: ordinary inputs, edges, wrong inputs. What a text may be is TextTest's. */
public final class PromisesTest {
    private static final String SEA = "bay lagos;bay riga;bay cork;lane lagos riga 2;lane riga cork 5;"
        + "deed lagos 0 3;deed riga 2 1;wind 2;wind 3;wind 1;wind 4;ship lagos;trust 40;";

    private PromisesTest() {
    }

    public static void main(String[] args) {
        newObject();
        whatIsTold();
        bays();
        moods();
        laws();
        sailing();
        kindnesses();
        copyByCall();
        nights();
        nightsByCopy();
        firstAdrift();
        ways();
        leastKindness();
        winters();
        copiesOfCopies();
        bids();
        rests();
        notes();
        tells();
        chances();
        trials();
        undoing();
        images();
        counts();
        leastOnes();
        Check.end();
    }

    private static void newObject() {
        MoodAnchor x = new MoodAnchor();
        for (int what = 0; what <= 15; what++) {
            Check.due("new count(" + what + ")", x.count(what), what >= 6 && what <= 8 ? -1 : 0);
        }
        Check.due("new text(1)", x.text(1), -2);
        Check.due("new sail", x.sail(0), -1);
        Check.due("new kind", x.kind(0, 1), -1);
        Check.due("new way", x.way(0, 0), -1);
        Check.due("new never", x.never(), 0);
        Check.due("new mood", x.mood(0, 0), -1);
        Check.due("new note", x.note(0, 0, true), -1);
        Check.due("new chance", x.chance(1, 9, 0), 10);
        Check.due("new tried", x.tried(4, 0, 9), 0);
        Check.due("new copy", x.copy(true), true);
        Check.due("new go", x.go(2), 2);
        Check.due("new adrift", x.count(10) + x.count(9) + x.count(11), 0);
        Check.due("new wind", x.wind(2), 0);
    }

    private static void whatIsTold() {
        MoodAnchor x = Check.told(SEA);
        Check.due("named(riga)", x.named(Check.letters("riga")), 1);
        Check.due("named(rig)", x.named(Check.letters("rig")), -1);
        Check.due("named(-1)", x.named(-1), -1);
        Check.due("lane both ways", x.lane(2, 1), 5);
        Check.due("lane(0, 2)", x.lane(0, 2), 0);
        Check.due("lane(3, 0)", x.lane(3, 0), -1);
        Check.due("deed(1, 0)", x.deed(1, 0), 1);
        Check.due("deed(1, 1)", x.deed(1, 1), 2);
        Check.due("deed(1, 2)", x.deed(1, 2), 1);
        Check.due("deed(1, 3)", x.deed(1, 3), -1);
        Check.due("deed(1, -1)", x.deed(1, -1), -1);
        Check.due("deed(2, 0)", x.deed(2, 0), -1);
        Check.due("deed(-1, 0)", x.deed(-1, 0), -1);
        Check.due("wind(0)", x.wind(0), 2);
        Check.due("wind(4)", x.wind(4), 0);
        Check.due("wind(9999)", x.wind(9999), 0);
        Check.due("wind(10000)", x.wind(10000), -1);
        Check.due("wind(-1)", x.wind(-1), -1);
        Check.due("the ship lies in the first one", Check.told("bay a;bay b;").count(6), 0);
        Check.due("the ship lies where told", Check.told("bay a;bay b;ship b;").count(6), 1);
    }

    private static int thrown(MoodAnchor x, int bay, int what) {
        try {
            x.bay(bay, what);
        } catch (IndexOutOfBoundsException e) {
            return 1;
        } catch (NoSuchElementException e) {
            return 2;
        }
        return 0;
    }

    private static void bays() {
        MoodAnchor x = Check.told("bay a;bay b;deed b 0 4;deed b 0 2;");
        Check.due("throws no such bay", thrown(x, 2, 0), 1);
        Check.due("throws no such bay", thrown(x, -1, 0), 1);
        Check.due("throws no such bay ahead of no such what", thrown(x, 2, 9), 1);
        Check.due("throws no such what", thrown(x, 0, 4), 2);
        Check.due("throws no such what", thrown(x, 0, -1), 2);
        Check.due("JOYS", x.bay(1, 0), 0);
        Check.due("LAST of none", x.bay(1, 1), 99);
        Check.due("lies", x.bay(0, 3), 1);
        Check.due("lies not", x.bay(1, 3), 0);
        x.go(1);
        Check.due("JOYS", x.bay(1, 0), 6);
        Check.due("LAST", x.bay(1, 1), 1);
        Check.due("MANY", x.bay(1, 2), 2);
        x.go(97);
        Check.due("LAST 98", x.bay(1, 1), 98);
        x.go(1);
        Check.due("LAST 99", x.bay(1, 1), 99);
        x.go(5);
        Check.due("LAST is 99 at most", x.bay(1, 1), 99);
    }

    private static void moods() {
        MoodAnchor x = Check.told(SEA);
        Check.due("mood of today has today's deeds", x.mood(0, 0), 30);
        Check.due("mood falls by days", x.mood(0, 30), 0);
        Check.due("mood of a deed to come", x.mood(1, 2), 10);
        Check.due("mood(0, 99)", x.mood(0, 99), 0);
        Check.due("mood(0, 100)", x.mood(0, 100), -1);
        Check.due("mood(0, -1)", x.mood(0, -1), -1);
        Check.due("mood(3, 0)", x.mood(3, 0), -1);
        Check.due("holds(3, 0)", x.holds(3, 0), -1);
        Check.due("holds(0, 1)", x.holds(0, 1), 0);
        Check.due("holds as much as the gale", x.holds(1, 2), 1);
        x.go(1);
        Check.due("mood ahead of now", x.mood(0, 0), -1);
        Check.due("holds to now and 99", x.holds(0, 100), 1);
        Check.due("holds beyond", x.holds(0, 101), -1);
        MoodAnchor high = Check.told("bay a;deed a 0 9;deed a 0 9;law fond 101;");
        Check.due("mood by law is 100 at most", high.mood(0, 0), 100);
        Check.due("mood is 100 at most", Check.told("bay a;deed a 0 9;deed a 0 9;").mood(0, 0), 100);
        Check.due("mood by law is 0 at least", Check.told("bay a;law fond 0-1;").mood(0, 0), 0);
        Check.due("mood with an error", Check.told("bay a;deed a 0 2;law fond 1/0;").mood(0, 3), 17);
        Check.due("holds with an error", Check.told("bay a;wind 1;law hold 1/0;").holds(0, 0), 0);
        Check.due("holds by law", Check.told("bay a;wind 1;law hold 0-1;").holds(0, 0), 1);
        Check.due("here is 0", Check.told("bay a;law fond here*50;").mood(0, 0), 0);
        Check.due("mood in hold", Check.told("bay a;law fond 70;law hold mood=70;").holds(0, 0), 1);
        Check.due("mood in fond", Check.told("bay a;law fond 5+mood;").mood(0, 0), 5);
    }

    private static void laws() {
        MoodAnchor x = Check.told("bay a;bay b;deed a 0 5;wind 4;"
            + "law fond joys*200+here*7+gale;law hold mood*1000+date;law gain last+many;");
        Check.due("law(0, 0): deeds of today aren't yet", x.law(0, 0), 11);
        Check.due("law(0, 1): not here", x.law(0, 1), 4);
        Check.due("law(1, 0)", x.law(1, 0), 11000);
        Check.due("law(2, 0)", x.law(2, 0), 99);
        Check.due("law(3, 0)", x.law(3, 0), Long.MIN_VALUE);
        Check.due("law(-1, 0)", x.law(-1, 0), Long.MIN_VALUE);
        Check.due("law(0, 2)", x.law(0, 2), Long.MIN_VALUE);
        Check.due("law(0, -1)", x.law(0, -1), Long.MIN_VALUE);
        Check.due("no such law", Check.told("bay a;").law(0, 0), Long.MIN_VALUE);
        x.go(1);
        Check.due("law(0, 0) beyond 100", x.law(0, 0), 6 * 200 + 7);
        Check.due("law(1, 0) of a mood at most 100", x.law(1, 0), 100001);
        Check.due("law(2, 0)", x.law(2, 0), 3);
    }

    private static void sailing() {
        MoodAnchor x = Check.told(SEA);
        Check.due("sail where it lies", x.sail(0), -1);
        Check.due("sail to none", x.sail(3), -1);
        Check.due("sail to none", x.sail(-1), -1);
        Check.due("sail without a lane", x.sail(2), -2);
        Check.due("sail", x.sail(1), 2);
        Check.due("sail at sea", x.sail(0), -2);
        Check.due("sail at sea to none", x.sail(3), -1);
        Check.due("lies nowhere", x.bay(0, 3) + x.bay(1, 3), 0);
        x.go(2);
        Check.due("still at sea in the morning", x.count(6), -2);
        Check.due("nights at sea", x.count(11), 2);
        x.go(1);
        Check.due("arrived", x.count(6), 1);
        Check.due("sails to none", x.count(7), -1);
        Check.due("arrives never", x.count(8), -1);
        Check.due("sail on", x.sail(2), 8);
    }

    private static void kindnesses() {
        MoodAnchor x = Check.told(SEA);
        Check.due("kind", x.kind(2, 9), 9);
        Check.due("kind", x.kind(2, 0), 9);
        Check.due("kind is remembered", x.bay(2, 2), 2);
        Check.due("kind is of now", x.bay(2, 1), 0);
        Check.due("kind to none", x.kind(3, 1), -1);
        Check.due("kind to none", x.kind(-1, 1), -1);
        Check.due("kind 10", x.kind(0, 10), -1);
        Check.due("kind -1", x.kind(0, -1), -1);
        Check.due("kind is no deed told", x.count(2), 2);
    }

    private static void copyByCall() {
        MoodAnchor x = Check.told(SEA);
        Check.due("copy(false)", x.copy(false), false);
        Check.due("copy(true)", x.copy(true), true);
        Check.due("copy(true)", x.copy(true), false);
        Check.due("down", x.count(12), 1);
        Check.due("copy(false)", x.copy(false), true);
        Check.due("up", x.count(12), 0);
    }

    private static void nights() {
        MoodAnchor x = Check.told("bay a;bay b;deed a 1 5;deed b 1 3;wind 1;wind 4;wind 9;");
        Check.due("go(-1)", x.go(-1), -1);
        Check.due("go(100)", x.go(100), -1);
        Check.due("go(0)", x.go(0), 0);
        Check.due("go(1)", x.go(1), 1);
        Check.due("adrift", x.count(10), 1);
        Check.due("0 at least", x.bay(0, 0), 0);
        Check.due("adrift is no joy", x.bay(0, 1), 99);
        Check.due("go(1)", x.go(1), 2);
        Check.due("held", x.count(9), 1);
        Check.due("gains 1", x.bay(0, 0), 6);
        Check.due("deed and night", x.bay(0, 2), 2);
        Check.due("elsewhere the deed alone", x.bay(1, 2), 1);
        Check.due("go(1)", x.go(1), 3);
        Check.due("drags by 2", x.bay(0, 0), 4);
        Check.due("last stays", x.bay(0, 1), 2);
        MoodAnchor gain = Check.told("bay a;law hold here;law gain 12;");
        gain.go(99);
        Check.due("gain is 9 at most", gain.bay(0, 0), 99 * 9);
        for (int i = 0; i < 10; i++) {
            gain.go(99);
        }
        Check.due("891 a go", gain.bay(0, 0), 9801);
        Check.due("count of nights", gain.go(99), 12 * 99);
        Check.due("9999 at most", gain.bay(0, 0), 9999);
        Check.due("9999 at most", gain.kind(0, 9), 9999);
        Check.due("MANY goes on", gain.bay(0, 2), 12 * 99 + 1);
        MoodAnchor less = Check.told("bay a;law gain 0-3;");
        less.go(2);
        Check.due("gain is 0 at least", less.bay(0, 0), 0);
        Check.due("held twice", less.bay(0, 2), 2);
        MoodAnchor error = Check.told("bay a;law gain 3/0;");
        error.go(2);
        Check.due("gain with an error", error.bay(0, 0), 2);
        lastDates();
    }

    private static void lastDates() {
        MoodAnchor x = Check.told("bay a;bay b;lane a b 9;");
        for (int i = 0; i < 100; i++) {
            x.go(99);
        }
        Check.due("the last date", x.count(5), 9900);
        Check.due("go(1) beyond", x.go(1), -1);
        Check.due("go(0) there", x.go(0), 9900);
        Check.due("mood there", x.mood(0, 9999) >= 0, true);
        Check.due("way there", x.way(1, 0), 9909);
        MoodAnchor y = Check.told("bay a;");
        for (int i = 0; i < 99; i++) {
            y.go(99);
        }
        y.go(98);
        Check.due("go(2) to behind 9900", y.go(2), -1);
        Check.due("none goes by", y.count(5), 9899);
        Check.due("go(1) to 9900", y.go(1), 9900);
    }

    private static void nightsByCopy() {
        MoodAnchor x = Check.told("bay a;trust 40;seed 7;deed a 0 3;");
        x.copy(true);
        long state = 7;
        int held = 0;
        for (int i = 1; i <= 50; i++) {
            x.go(1);
            state = (state * 1103515245L + 12345L) % 2147483648L;
            held += state / 65536 % 100 < 40 ? 1 : 0;
            Check.due("copy held by night " + i, x.count(9), held);
            Check.due("copy adrift by night " + i, x.count(10), i - held);
        }
        Check.due("the anchor remembers the deed alone", x.bay(0, 0), 3);
        MoodAnchor sure = Check.told("bay a;trust 100;wind 9;");
        sure.copy(true);
        sure.go(99);
        Check.due("trust 100", sure.count(9), 99);
        MoodAnchor none = Check.told("bay a;trust 0;");
        none.copy(true);
        none.go(99);
        Check.due("trust 0", none.count(10), 99);
    }

    private static void firstAdrift() {
        MoodAnchor x = Check.told("bay a;bay b;lane a b 3;wind 0;wind 0;wind 1;wind 9;");
        Check.due("firstAdrift(0)", x.firstAdrift(0), -1);
        Check.due("firstAdrift(100)", x.firstAdrift(100), -1);
        Check.due("by nights before it holds on", x.firstAdrift(99), 4);
        Check.due("firstAdrift(3)", x.firstAdrift(3), -2);
        Check.due("firstAdrift(4)", x.firstAdrift(4), 4);
        x.sail(1);
        Check.due("at sea first, then nothing there", x.firstAdrift(9), 4);
        Check.due("nothing went by", x.count(5), 0);
        x.undo();
        x.copy(true);
        Check.due("the copy holds by trust 50", x.firstAdrift(99), -2);
        MoodAnchor y = Check.told("bay a;trust 49;");
        y.copy(true);
        Check.due("the copy doesn't by 49", y.firstAdrift(99), 1);
        y.copy(false);
        y.copy(true);
        y.go(1);
        MoodAnchor z = Check.told("bay a;trust 49;");
        z.copy(true);
        z.go(1);
        Check.due("no numbers were drawn", y.count(9), z.count(9));
    }

    private static void ways() {
        MoodAnchor x = Check.told("bay a;bay b;bay c;bay d;lane a b 2;lane b c 2;lane a c 8;reach 5;"
            + "law hold date<>2 and date<>4;");
        Check.due("way(0, 0)", x.way(0, 0), 0);
        Check.due("way(0, 1)", x.way(0, 1), 0);
        // It can't arrive at b on 2: it waits a day. From 3 it lies there, sails on in the morning of 4.
        Check.due("way(1, 0)", x.way(1, 0), 3);
        Check.due("way(1, 1)", x.way(1, 1), 1);
        Check.due("way(2, 0)", x.way(2, 0), 6);
        Check.due("way(2, 1)", x.way(2, 1), 2);
        Check.due("way(3, 0)", x.way(3, 0), -2);
        Check.due("way(4, 0)", x.way(4, 0), -1);
        Check.due("way(-1, 0)", x.way(-1, 0), -1);
        Check.due("way(0, 2)", x.way(0, 2), -1);
        Check.due("way(3, 2)", x.way(3, 2), -1);
        Check.due("never()", x.never(), 8);
        MoodAnchor few = Check.told("bay a;bay b;bay c;lane a b 2;lane b c 2;lane a c 5;");
        Check.due("as early by fewer lanes", few.way(2, 0), 5);
        Check.due("as early by fewer lanes", few.way(2, 1), 1);
        MoodAnchor late = Check.told("bay a;bay b;lane a b 1;law hold date>=60 or date<60 and last=99 and gale=0;");
        Check.due("early", late.way(1, 0), 1);
        MoodAnchor shut = Check.told("bay a;bay b;lane a b 1;deed a 0 1;law hold date=60 or last<99;");
        Check.due("by now and 60", shut.way(1, 0), 60);
        Check.due("where it lies there is one", shut.never(), 0);
        MoodAnchor over = Check.told("bay a;bay b;lane a b 1;deed a 0 1;law hold date=61 or last<99;");
        Check.due("not behind now and 60", over.way(1, 0), -2);
        MoodAnchor dragged = Check.told("bay a;bay b;bay c;lane a b 2;lane b c 1;law hold date<>0 and date<>3;");
        Check.due("can't wait a night adrift, can sail", dragged.way(1, 0), 2);
        Check.due("can't wait at b, can't arrive on 4 but by sailing on 3", dragged.way(2, 0), 4);
        waysAtSea();
    }

    private static void waysAtSea() {
        MoodAnchor x = Check.told("bay a;bay b;bay c;lane a b 4;lane b c 3;law hold date>4;");
        x.sail(1);
        x.go(1);
        Check.due("at sea: when it arrives, whether it holds or not", x.way(1, 0), 4);
        Check.due("at sea: no lanes", x.way(1, 1), 0);
        Check.due("it may sail on at once", x.way(2, 0), 7);
        Check.due("by one lane", x.way(2, 1), 1);
        Check.due("back again", x.way(0, 0), 8);
        Check.due("never()", x.never(), 0);
    }

    private static void leastKindness() {
        MoodAnchor x = Check.told("bay a;bay b;wind 2;wind 9;deed b 1 3;");
        Check.due("kindness now", x.kindness(0, 0), 2);
        Check.due("kindness later", x.kindness(0, 1), -2);
        Check.due("kindness with a deed to come", x.kindness(1, 1), 6);
        Check.due("kindness of no need", x.kindness(0, 5), 0);
        Check.due("kindness(0, 99)", x.kindness(0, 99), 0);
        Check.due("kindness(0, 100)", x.kindness(0, 100), -1);
        Check.due("kindness(0, -1)", x.kindness(0, -1), -1);
        Check.due("kindness(2, 0)", x.kindness(2, 0), -1);
        Check.due("nothing was done", x.bay(0, 2), 0);
        Check.due("joy 0 is a deed, too", Check.told("bay a;law hold last=3;").kindness(0, 3), 0);
    }

    private static void winters() {
        MoodAnchor x = Check.told("bay a;bay b;bay c;wind 1;wind 1;wind 1;deed c 1 5;deed b 2 5;");
        Check.due("winter(1, 0): the first of several", x.winter(1, 0), 0);
        Check.due("winter(1, 1)", x.winter(1, 1), 0);
        Check.due("winter(3, 0)", x.winter(3, 0), 2);
        Check.due("winter(3, 1)", x.winter(3, 1), 2);
        Check.due("winter(60, 1)", x.winter(60, 1), 59);
        Check.due("winter(61, 0)", x.winter(61, 0), -1);
        Check.due("winter(0, 0)", x.winter(0, 0), -1);
        Check.due("winter(3, 2)", x.winter(3, 2), -1);
        Check.due("winter(3, -1)", x.winter(3, -1), -1);
        x.go(1);
        Check.due("from now on", x.winter(2, 1), 2);
    }

    private static void copiesOfCopies() {
        MoodAnchor x = Check.told("trust 99;");
        Check.due("copies(8, 0)", x.copies(8, 0), 9227446944279201L);
        Check.due("copies(8, 1)", x.copies(8, 1), 10000000000000000L);
        Check.due("copies(0, 0)", x.copies(0, 0), -1);
        Check.due("copies(9, 0)", x.copies(9, 0), -1);
        Check.due("copies(1, 2)", x.copies(1, 2), -1);
        Check.due("copies(1, -1)", x.copies(1, -1), -1);
        Check.due("trust 0 above", Check.told("trust 0;").copies(2, 0), 0);
        Check.due("trust 0 below", Check.told("trust 0;").copies(2, 1), 1);
        Check.due("trust 100", Check.told("trust 100;").copies(8, 1), 1);
        Check.due("trust 60", Check.told("trust 60;").copies(3, 0), 27);
        Check.due("trust 60", Check.told("trust 60;").copies(3, 1), 125);
    }

    private static void bids() {
        MoodAnchor x = Check.told("bay a;bay b;bay c;bay d;lane a b 9;lane b c 9;reach 1;"
            + "deed a 0 2;deed b 0 3;deed c 0 6;deed d 0 9;");
        Check.due("bids(0): reach doesn't matter", x.bids(0), 2);
        Check.due("bids(1)", x.bids(1), 40);
        Check.due("bids(2)", x.bids(2), -1);
        Check.due("bids(-1)", x.bids(-1), -1);
        x.sail(1);
        Check.due("at sea: from where it sails to", x.bids(1), 50);
        MoodAnchor y = Check.told("bay a;bay b;lane a b 1;deed b 0 3;deed a 0 2;");
        Check.due("the first of several", y.bids(0), 0);
        MoodAnchor z = Check.told("bay a;bay b;lane a b 1;law fond 1-here;ship b;");
        Check.due("0 at least, foreseen here 0", z.bids(0), 1);
        Check.due("0 at least, foreseen here 0", z.bids(1), 1);
        Check.due("no way", Check.told("bay a;bay b;deed b 0 9;").bids(1), 0);
        Check.due("no way", Check.told("bay a;bay b;deed b 0 9;").bids(0), 0);
    }

    private static void rests() {
        // Of three nights a holds 1, b 3, c 1: half of 3 is 1.
        MoodAnchor x = Check.told("bay a;bay b;bay c;law hold many>0;deed a 2 1;deed b 0 1;deed c 2 1;");
        Check.due("rests(3)", x.rests(3), 5);
        int[] due = {1, 10, 11, 12, 21};
        for (int k = 0; k < due.length; k++) {
            Check.due("rest(3, " + k + ")", x.rest(3, k), due[k]);
        }
        Check.due("rest(3, 5)", x.rest(3, 5), -2);
        Check.due("rest(3, -1)", x.rest(3, -1), -1);
        Check.due("rest(0, 0)", x.rest(0, 0), -1);
        Check.due("rest(61, 0)", x.rest(61, 0), -1);
        Check.due("rests(0)", x.rests(0), -1);
        Check.due("rests(61)", x.rests(61), -1);
        Check.due("rests(60)", x.rests(60), 4);
        Check.due("nowhere a night: all are", Check.told("bay a;bay b;law hold 0;").rests(9), 4);
        Check.due("rest without BAYS", new MoodAnchor().rest(3, 0), -1);
    }

    private static void notes() {
        MoodAnchor x = Check.told("bay a;bay b;deed a 3 5;deed b 0 2;wind 1;wind 1;wind 1;wind 4;");
        Check.due("was without notes", x.was(0), 1023);
        Check.due("note", x.note(0, 3, true), 0);
        Check.due("was 4 .. 9", x.was(0), 1023 - 15);
        Check.due("was(2)", x.was(2), -1);
        Check.due("was(-1)", x.was(-1), -1);
        Check.due("the other deed", x.was(1), 1023);
        Check.due("note", x.note(1, 0, false), 1);
        Check.due("all must be so", x.was(0), 0);
        Check.due("b's deed was 0", x.was(1), 1);
        Check.due("out(1)", x.out(1), 2);
        Check.due("struck", x.was(0), 1023 - 15);
        Check.due("out(2)", x.out(2), 3);
        Check.due("what strikes is struck", x.was(0), 0);
        Check.due("known(3)", x.known(3), true);
        Check.due("known by 3", x.was(0), 1023 - 15);
        Check.due("known(2)", x.known(2), true);
        Check.due("known by 2", x.was(0), 0);
        Check.due("known(1)", x.known(1), true);
        Check.due("known by 1", x.was(0), 1023 - 15);
        Check.due("known(0)", x.known(0), true);
        Check.due("known by 0", x.was(0), 1023);
        Check.due("count(14)", x.count(14), 0);
        Check.due("known(5)", x.known(5), false);
        Check.due("known(-2)", x.known(-2), false);
        Check.due("count(14) stays", x.count(14), 0);
        Check.due("known(4)", x.known(4), true);
        Check.due("out(3)", x.out(3), 4);
        Check.due("known by 4 of 5", x.count(14), 4);
        Check.due("known(-1)", x.known(-1), true);
        Check.due("known by all", x.count(14), 5);
        Check.due("struck thrice", x.was(0), 1023 - 15);
        wrongNotes(x);
        MoodAnchor late = Check.told("bay a;deed a 5 3;law hold joys>3;");
        late.kind(0, 9);
        late.go(9);
        late.note(0, 9, true);
        Check.due("from the text, whatever was done", late.was(0), 1008);
    }

    private static void wrongNotes(MoodAnchor x) {
        Check.due("out(5)", x.out(5), -1);
        Check.due("out(-1)", x.out(-1), -1);
        Check.due("note(2, 0)", x.note(2, 0, true), -1);
        Check.due("note(-1, 0)", x.note(-1, 0, true), -1);
        Check.due("note(0, 100)", x.note(0, 100, true), -1);
        Check.due("note(0, -1)", x.note(0, -1, true), -1);
        for (int i = 5; i < 24; i++) {
            Check.due("note " + i, x.note(0, 99, true), i);
        }
        Check.due("a 25th note", x.note(0, 99, true), -1);
        Check.due("a 25th strikes", x.out(0), -1);
        Check.due("NOTES", x.count(13), 24);
    }

    private static void tells() {
        MoodAnchor x = Check.told("bay a;deed a 2 1;wind 0;wind 0;wind 9;wind 7;wind 4;wind 5;");
        // On 2 only 9 holds, on 3 8 and 9 (79 and more by 8), on 4 5 to 9, on 5 6 to 9.
        Check.due("half of ten", x.tells(0), 4);
        Check.due("tells(1)", x.tells(1), -1);
        Check.due("tells(-1)", x.tells(-1), -1);
        x.note(0, 4, false);
        Check.due("0 to 4 alike: the first", x.tells(0), 2);
        x.note(0, 4, true);
        Check.due("was none", x.tells(0), -2);
        MoodAnchor far = Check.told("bay a;deed a 99 1;law hold date<118 or joys>4;");
        Check.due("the twentieth day", far.tells(0), 118);
        MoodAnchor over = Check.told("bay a;deed a 0 1;law hold date<20 or joys>4;");
        Check.due("not the twenty-first", over.tells(0), 0);
    }

    private static void chances() {
        MoodAnchor x = Check.told("bay a;deed a 0 5;trust 60;");
        Check.due("chance(-1)", x.chance(-1, 5, 5), -1);
        Check.due("chance(n 0)", x.chance(1, 0, 5), -1);
        Check.due("chance(n 61)", x.chance(1, 61, 5), -1);
        Check.due("chance(adrift -1)", x.chance(1, 5, -1), -1);
        Check.due("chance(adrift 61)", x.chance(1, 5, 61), -1);
        Check.due("chance(adrift 60)", x.chance(1, 60, 60), 10);
        for (int seed : new int[] {0, 1, 77, 65536, 2147483647}) {
            for (int most = 0; most < 4; most++) {
                Check.due("chance " + seed + " " + most, x.chance(seed, 4, most), chanceByHand(seed, most, false));
            }
        }
        x.copy(true);
        for (int seed : new int[] {0, 1, 77, 65536, 2147483647}) {
            for (int most = 0; most < 4; most++) {
                Check.due("chance copy " + seed + " " + most, x.chance(seed, 4, most), chanceByHand(seed, most, true));
            }
        }
        Check.due("nothing went by", x.count(5), 0);
    }

    /** Four nights in a bay that had joy 5 on the first day. */
    private static int chanceByHand(long seed, int most, boolean copy) {
        long state = seed;
        int good = 0;
        for (int time = 0; time < 10; time++) {
            int joys = 5;
            int last = 0;
            int adrift = 0;
            for (int night = 0; night < 4; night++) {
                state = (state * 1103515245L + 12345L) % 2147483648L;
                long gale = state / 65536 % 10;
                boolean holds = 10 * joys - last >= 10 * gale;
                if (copy) {
                    state = (state * 1103515245L + 12345L) % 2147483648L;
                    adrift += state / 65536 % 100 < 60 ? 0 : 1;
                } else if (holds) {
                    joys++;
                    last = 0;
                } else {
                    joys = Math.max(0, joys - 2);
                    adrift++;
                }
                last++;
            }
            good += adrift <= most ? 1 : 0;
        }
        return good;
    }

    private static void trials() {
        MoodAnchor x = Check.told("bay a;deed a 0 3;deed a 1 2;wind 3;wind 5;wind 9;wind 9;trust 49;");
        Check.due("as it is", x.tried(0, 0, 4), 2);
        Check.due("no wind", x.tried(1, 0, 4), 0);
        Check.due("without deed 0", x.tried(2, 0, 4), 4);
        Check.due("without deed 1", x.tried(2, 1, 4), 3);
        Check.due("joy 9", x.tried(3, 0, 4), 0);
        Check.due("the copy", x.tried(4, 0, 4), 4);
        Check.due("not the copy", x.tried(5, 0, 4), 2);
        Check.due("n 0", x.tried(0, 0, 0), 0);
        Check.due("n 60", x.tried(4, 0, 60), 60);
        Check.due("n 61", x.tried(0, 0, 61), -1);
        Check.due("n -1", x.tried(0, 0, -1), -1);
        Check.due("what 6", x.tried(6, 0, 1), -1);
        Check.due("what -1", x.tried(-1, 0, 1), -1);
        Check.due("no such deed", x.tried(2, 2, 1), -1);
        Check.due("no such deed", x.tried(2, -1, 1), -1);
        Check.due("i of another what", x.tried(0, 1, 1), -1);
        x.copy(true);
        Check.due("as it is, the copy", x.tried(0, 0, 4), 4);
        Check.due("not the copy", x.tried(5, 0, 4), 2);
        x.undo();
        x.go(1);
        Check.due("from now on", x.tried(2, 0, 3), 2);
        Check.due("nothing went by", x.count(5), 1);
    }

    private static void undoing() {
        MoodAnchor x = Check.told(SEA);
        Check.due("undo none", x.undo(), -1);
        x.kind(0, 4);
        x.copy(true);
        x.sail(1);
        x.kind(0, 5);
        Check.due("four", x.count(15), 4);
        Check.due("undo", x.undo(), 3);
        Check.due("JOYS", x.bay(0, 0), 4);
        Check.due("undo", x.undo(), 2);
        Check.due("lies again", x.count(6), 0);
        Check.due("sails no more", x.count(7) + x.count(8), -2);
        Check.due("undo", x.undo(), 1);
        Check.due("copy up", x.count(12), 0);
        Check.due("undo", x.undo(), 0);
        Check.due("LAST again", x.bay(0, 1), 99);
        Check.due("MANY again", x.bay(0, 2), 0);
        Check.due("undo", x.undo(), -1);
        x.kind(0, 1);
        x.go(0);
        Check.due("no night went by", x.count(15), 1);
        x.go(1);
        Check.due("a night went by", x.undo(), -1);
        for (int i = 1; i <= 25; i++) {
            x.kind(2, 1);
            Check.due("20 at most", x.count(15), Math.min(20, i));
        }
        for (int i = 19; i >= 0; i--) {
            Check.due("the latest first", x.undo(), i);
        }
        Check.due("five stay done", x.bay(2, 0), 5);
        Check.due("no more", x.undo(), -1);
        x.sail(9);
        x.kind(0, 10);
        x.copy(false);
        Check.due("what was not done can't be undone", x.count(15), 0);
    }

    private static void images() {
        MoodAnchor x = Check.told(SEA + "seed 5;");
        Check.due("back without", x.back(), -1);
        x.go(2);
        x.sail(1);
        x.copy(true);
        Check.due("keep", x.keep(), 2);
        Check.due("keep leaves what can be undone", x.count(15), 2);
        x.note(0, 0, true);
        x.known(0);
        x.go(20);
        int adrift = x.count(10);
        Check.due("back", x.back(), 2);
        Check.due("at sea", x.count(8), 4);
        Check.due("copy", x.count(12), 1);
        Check.due("nothing to undo", x.count(15), 0);
        Check.due("NOTES stay", x.count(13), 1);
        Check.due("KNOWN stays", x.count(14), 0);
        x.go(20);
        Check.due("the same numbers", x.count(10), adrift);
        Check.due("back again", x.back(), 2);
        x.go(1);
        Check.due("keep in place of it", x.keep(), 3);
        x.go(1);
        Check.due("back", x.back(), 3);
        Check.tell(x, "bay a");
        Check.due("a fault leaves the image", x.back(), 3);
        Check.tell(x, "bay a;");
        Check.due("a text drops it", x.back(), -1);
    }

    /** The least that each call takes, and one bay alone. */
    private static void leastOnes() {
        MoodAnchor x = Check.told("bay z;deed z 0 0;wind 1;trust 98;");
        Check.due("named(z)", x.named(Check.letters("z")), 0);
        Check.due("deed of joy 0", x.deed(0, 2), 0);
        Check.due("firstAdrift(1)", x.firstAdrift(1), 1);
        Check.due("copies(1, 0)", x.copies(1, 0), 49);
        Check.due("copies(1, 1)", x.copies(1, 1), 50);
        Check.due("bids(0)", x.bids(0), 0);
        Check.due("bids(1)", x.bids(1), 0);
        Check.due("winter(1, 0)", x.winter(1, 0), 0);
        Check.due("winter(2, 1)", x.winter(2, 1), 1);
        Check.due("rests(1)", x.rests(1), 1);
        Check.due("rest(1, 0)", x.rest(1, 0), 0);
        Check.due("rest(1, 1)", x.rest(1, 1), -2);
        Check.due("chance(0, 1, 0)", x.chance(0, 1, 0), windsOfNone(0));
        Check.due("chance(9, 1, 0)", x.chance(9, 1, 0), windsOfNone(9));
        Check.due("note", x.note(0, 0, true), 0);
        Check.due("was", x.was(0), 1022);
        Check.due("out(0)", x.out(0), 1);
        Check.due("the first one is struck", x.was(0), 1023);
        Check.due("tells", x.tells(0), 0);
        Check.due("never()", x.never(), 0);
        MoodAnchor two = Check.told("bay a;bay b;lane a b 1;ship b;law hold 0;");
        Check.due("never the first one", two.never(), 1);
        Check.due("bids of none", two.bids(0), 0);
        two.sail(0);
        two.go(1);
        Check.due("it arrives today", two.way(0, 0), 1);
        Check.due("never the second one", two.never(), 2);
        MoodAnchor here = Check.told("bay a;deed a 0 1;law hold here or joys>4;");
        here.note(0, 0, true);
        Check.due("from the text here is 0", here.was(0), 992);
        MoodAnchor nine = Check.told("bay a;deed a 0 1;law hold date=3 and joys>8 or date=4 and joys>7;");
        Check.due("two of ten", nine.tells(0), 4);
        Check.due("equal is at least", Check.told("bay a;law fond 5>=5;").law(0, 0), 1);
        Check.due("unlike is 1", Check.told("bay a;law fond 5<>6;").law(0, 0), 1);
        Check.due("more is not at most", Check.told("bay a;law fond 6<=5;").law(0, 0), 0);
    }

    /** In how many of ten single nights there is no wind. */
    private static int windsOfNone(long seed) {
        long state = seed;
        int none = 0;
        for (int time = 0; time < 10; time++) {
            state = (state * 1103515245L + 12345L) % 2147483648L;
            none += state / 65536 % 10 == 0 ? 1 : 0;
        }
        return none;
    }

    private static void counts() {
        MoodAnchor x = Check.told(SEA + "law gain 1+2;");
        int[] due = {3, 2, 2, 4, 3, 0, 0, -1, -1, 0, 0, 0, 0, 0, 0, 0};
        for (int what = 0; what < due.length; what++) {
            Check.due("count(" + what + ")", x.count(what), due[what]);
        }
        Check.due("count(16)", x.count(16), -1);
        Check.due("count(-1)", x.count(-1), -1);
        x.go(3);
        Check.due("HELD", x.count(9), 3);
        x.sail(1);
        x.go(1);
        Check.due("DATE", x.count(5), 4);
        Check.due("at sea", x.count(6), -2);
        Check.due("to", x.count(7), 1);
        Check.due("when", x.count(8), 5);
        Check.due("nights at sea", x.count(11), 1);
    }
}
