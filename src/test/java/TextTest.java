/** Promises 3 to 5, 7 to 9 and the values of expressions: what a text may be, and its faults. */
public final class TextTest {
    private static final String EIGHT = "bay a;bay b;bay c;bay d;bay e;bay f;bay g;bay h;";

    private TextTest() {
    }

    public static void main(String[] args) {
        tape();
        tokens();
        places();
        tooMuch();
        toldAlready();
        expressions();
        values();
        whatStays();
        Check.end();
    }

    private static void tape() {
        MoodAnchor x = new MoodAnchor();
        Check.due("fault(0) of a new one", x.fault(0), 0);
        Check.due("fault(1) of a new one", x.fault(1), -1);
        for (int i = 1; i <= 35; i++) {
            Check.due("feed " + i, x.feed(0x20202020, 0x20202020, 0x0a202020, 0x20202020, 0x20202020), 20 * i);
        }
        Check.due("feed beyond 700", x.feed(0, 0, 0, 0, 0), -1);
        Check.due("text(701)", x.text(701), -2);
        Check.due("text(-1)", x.text(-1), -2);
        Check.due("text(700)", x.text(700), 0);
        Check.due("the tape is empty", x.feed(0x62617920, 0x613b2020, 0, 0, 0), 20);
        Check.due("text(6)", x.text(6), 1);
        Check.due("the tape is empty, what wasn't read too", x.text(1), -2);
        Check.due("fault(0) stays by -2", x.fault(0), 0);
        Check.due("fault(2)", x.fault(2), -1);
        Check.due("fault(-1)", x.fault(-1), -1);
        Check.due("highest byte first", x.named(Check.letters("a")), 0);
        // Bytes above 127 come as they are, and are no tokens.
        x.feed(0x62617920, 0xe13b2020, 0, 0, 0);
        Check.due("text(6)", x.text(6), -1);
        Check.due("fault(1)", x.fault(1), 4);
    }

    private static void tokens() {
        Check.lines("", 0);
        Check.lines(" \n \n", 0);
        Check.lines("bay\na;lane\n\n", -1);
        Check.lines("bay a;bay b;lane a b2;seed00000000000000000001;", 4);
        Check.lines("bay abcdef;", 1);
        Check.fault("bay abcdefg;", 1, 4);
        Check.fault("bay a;\tbay b;", 1, 6);
        Check.fault("bay A;", 1, 4);
        Check.fault("bay bay;", 1, 4);
        Check.fault("bay joys;", 1, 4);
        Check.fault("bay 1;", 1, 4);
        Check.fault("bay a1;", 1, 5);
        Check.fault("baya;", 1, 0);
        Check.fault(";", 1, 0);
        Check.fault("bay a;;", 1, 6);
        Check.fault("a;", 1, 0);
        Check.fault("fond 1;", 1, 0);
        Check.fault("wind -1;", 1, 5);
        Check.fault("wind 1,", 1, 6);
        Check.fault("bay a;ship 1;", 1, 11);
        Check.fault("bay a;lane a 1;", 1, 13);
        Check.fault("bay a;deed a 1;", 1, 14);
    }

    private static void places() {
        Check.fault("b", 1, 0);
        Check.fault("bay", 1, 3);
        Check.fault("bay  \n", 1, 6);
        Check.fault("bay a", 1, 5);
        Check.fault("law fond", 1, 8);
        Check.fault("law fond (1", 1, 11);
        Check.fault("law fond 1+ ", 1, 12);
        Check.fault("law", 1, 3);
        Check.fault("wind 10;!", 2, 5);
        Check.fault("bay a;bay a!", 3, 10);
        Check.fault("ship a!", 4, 5);
        Check.fault("bay a;lane a a!", 5, 13);
        Check.fault("bay a;lane b b 0;", 4, 11);
        Check.fault("bay a;lane a b 0;", 4, 13);
        Check.fault("bay a;deed b 100 10;", 4, 11);
    }

    private static void tooMuch() {
        Check.lines(EIGHT, 8);
        Check.fault(EIGHT + "bay i;", 2, 48);
        Check.fault(EIGHT + "bay a;", 2, 48);
        Check.fault(EIGHT + "bay", 2, 48);
        String lanes = EIGHT + "lane a b 1;lane a c 1;lane a d 1;lane a e 1;lane a f 1;lane a g 1;lane a h 1;"
            + "lane b c 1;lane b d 1;lane b e 1;lane b f 1;lane b g 9;";
        Check.lines(lanes, 20);
        Check.fault(lanes + "lane b h 1;", 2, lanes.length());
        String deeds = "bay a;" + Check.repeat("deed a 99 9;", 12);
        Check.lines(deeds, 13);
        Check.fault(deeds + "deed", 2, deeds.length());
        String winds = Check.repeat("wind 9;", 20);
        Check.lines(winds, 20);
        Check.fault(winds + "wind 0;", 2, winds.length());
        Check.fault("bay a;bay b;lane a b 10;", 2, 21);
        Check.fault("bay a;bay b;lane a b 0;", 2, 21);
        Check.fault("bay a;deed a 100 1;", 2, 13);
        Check.fault("bay a;deed a 99 10;", 2, 16);
        Check.fault("wind 99999999999999999999;", 2, 5);
        Check.fault("reach 10;", 2, 6);
        Check.fault("reach 0;", 2, 6);
        Check.lines("reach 1;trust 0;seed 0;", 3);
        Check.lines("reach 9;trust 100;seed 99999;", 3);
        Check.fault("trust 101;", 2, 6);
        Check.fault("seed 100000;", 2, 5);
        Check.fault("law fond 10000;", 2, 9);
        Check.lines("law fond 9999;", 1);
    }

    private static void toldAlready() {
        Check.fault("bay a;ship a;ship a;", 3, 13);
        Check.fault("reach 1;reach 0;", 3, 8);
        Check.fault("trust 1;trust 1;", 3, 8);
        Check.fault("seed 1;seed", 3, 7);
        Check.fault("law fond 1;law fond", 3, 15);
        Check.fault("bay a;bay b;lane a b 1;lane a b 1;", 3, 30);
        Check.fault("bay a;bay b;lane a b 1;lane b a 1;", 3, 30);
        Check.lines("law gain 1;law hold 1;law fond 1;", 3);
    }

    private static void expressions() {
        Check.fault("law fond 1<2<3;", 1, 12);
        Check.fault("law fond 1<2+3<4;", 1, 14);
        Check.fault("law fond not 1<2<3;", 1, 16);
        Check.lines("law fond (1<2)<3;", 1);
        Check.lines("law fond not 1<2 and not not 2<3 or not 4;", 1);
        Check.fault("law fond 1+not 2;", 1, 11);
        Check.fault("law fond 1<not 2;", 1, 11);
        Check.lines("law fond 1+(not 2);", 1);
        Check.fault("law fond 1 not 2;", 1, 11);
        Check.fault("law fond 1);", 1, 10);
        Check.fault("law fond (1;", 1, 11);
        Check.fault("law fond ();", 1, 10);
        Check.fault("law fond ;", 1, 9);
        Check.fault("law fond -1;", 1, 9);
        Check.fault("law fond 1 2;", 1, 11);
        Check.fault("law fond 1< =2;", 1, 12);
        Check.fault("law fond 1=<2;", 1, 11);
        Check.fault("law fond 1><2;", 1, 11);
        Check.fault("law fond a;", 1, 9);
        Check.fault("law fond bay;", 1, 9);
        Check.lines("law fond " + Check.repeat("(", 8) + "1" + Check.repeat(")", 8) + ";", 1);
        Check.fault("law fond " + Check.repeat("(", 9) + "1" + Check.repeat(")", 9) + ";", 2, 17);
        Check.lines("law fond " + Check.repeat("(1)+", 20) + "1;", 1);
        Check.lines("law fond " + Check.repeat("not ", 63) + "1;", 1);
        Check.fault("law fond " + Check.repeat("not ", 64) + "1;", 2, 9 + 256);
        Check.fault("law fond " + Check.repeat("1+", 32) + "1;", 2, 9 + 64);
        String half = "law fond " + Check.repeat("1+", 15) + "1;";
        Check.fault(half + "law hold " + Check.repeat("1*", 20) + "1;", 2, half.length() + 9 + 33);
        Check.fault("law fond 1 + " + Check.repeat("not ", 64) + "1;", 1, 13);
    }

    private static void value(String expression, long want) {
        MoodAnchor x = Check.told("bay a;law fond " + expression + ";");
        Check.due(expression, x.law(0, 0), want);
    }

    private static void values() {
        value("1+2*3", 7);
        value("(1+2)*3", 9);
        value("10-3-2", 5);
        value("100/10/5", 2);
        value("100/(10/5)", 50);
        value("(0-7)/2", -3);
        value("7/(0-2)", -3);
        value("2*7/3", 4);
        value("1<2", 1);
        value("2<=2", 1);
        value("2<>2", 0);
        value("2=2", 1);
        value("2>=3", 0);
        value("3>2", 1);
        value("not 0", 1);
        value("not 5", 0);
        value("not not 5", 1);
        value("not 1+1", 0);
        value("not 1>2", 1);
        value("1 or 0 and 0", 1);
        value("(1 or 0) and 0", 0);
        value("7 and 9", 1);
        value("0 or 9", 1);
        value("1+2<4 and 3", 1);
        value("1/0", Long.MIN_VALUE);
        value("1 or 1/0", Long.MIN_VALUE);
        value("0 and 1/0", Long.MIN_VALUE);
        value("0*(1/0)", Long.MIN_VALUE);
        value("1000*1000*1000*1000", 1000000000000L);
        value("1000*1000*1000*1000+1", Long.MIN_VALUE);
        value("0-1000*1000*1000*1000", -1000000000000L);
        value("0-1000*1000*1000*1000-1", Long.MIN_VALUE);
        value("1000*1000*1000*1000*(1000*1000*1000*1000)", Long.MIN_VALUE);
        value("(0-1000*1000*1000)*(1000*1001)", Long.MIN_VALUE);
        value("1000*1000*1000*1000*0", 0);
        value("joys+last*1000+many", 99000);
        value("mood", 0);
        value("here", 1);
        value("date+gale", 0);
    }

    private static void whatStays() {
        MoodAnchor x = Check.told("bay a;bay b;lane a b 3;deed b 4 5;wind 6;law gain 7+8;");
        x.note(0, 0, true);
        x.copy(true);
        Check.due("text with a fault", Check.tell(x, "bay a"), -1);
        Check.due("BAYS stay", x.count(0), 2);
        Check.due("LANES stay", x.lane(1, 0), 3);
        Check.due("DEEDS stay", x.deed(0, 1), 4);
        Check.due("WINDS stay", x.wind(0), 6);
        Check.due("KNOTS stay", x.count(4), 3);
        Check.due("NOTES stay", x.count(13), 1);
        Check.due("the COPY stays", x.count(12), 1);
        Check.due("undo stays", x.count(15), 1);
        Check.due("fault(0)", x.fault(0), 1);
        Check.due("text without one", Check.tell(x, "bay c;"), 1);
        Check.due("fault(0)", x.fault(0), 0);
        Check.due("fault(1)", x.fault(1), -1);
        Check.due("named(a)", x.named(Check.letters("a")), -1);
        Check.due("named(c)", x.named(Check.letters("c")), 0);
        Check.due("named(0)", x.named(0), -1);
        for (int what : new int[] {1, 2, 3, 4, 5, 9, 10, 11, 12, 13, 14, 15}) {
            Check.due("count(" + what + ")", x.count(what), 0);
        }
        Check.due("lane(0, 0)", x.lane(0, 0), 0);
        Check.due("lane(0, 1)", x.lane(0, 1), -1);
        Check.due("lane(-1, 0)", x.lane(-1, 0), -1);
        Check.due("back()", x.back(), -1);
    }
}
