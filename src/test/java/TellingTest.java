/** Promises 1 to 4: a new object, the tape, towns and years told, and their faults. */
public final class TellingTest {
    private static final Checks c = new Checks();

    public static void main(String[] args) {
        newObject();
        tape();
        townFaults();
        tokenFaults();
        lawFaults();
        houseBounds();
        yearsFaults();
        townBeginsAnew();
        laws();
        c.end();
    }

    private static String house(String name, String kind, int thick, int wet, int ink) {
        return "house " + name + " " + kind + " thick " + thick + " wet " + wet + " ink " + ink + ";";
    }

    private static int at(int kind, int place) {
        return kind + 16 * place;
    }

    private static void newObject() {
        MangleTown x = new MangleTown();
        int[] want = {0, 5, 3, 0, 1, 0, 0, 0, 0, 0, 0, 0, -1, 0, 0};
        for (int i = 0; i < want.length; i++) {
            c.due("P1 count " + i, x.count(i), want[i]);
        }
        c.due("P1 undo", x.undo(), false);
        c.due("P1 mark", x.mark(0, true), false);
        c.due("P1 NONE", MangleTown.NONE, -1);
    }

    private static void tape() {
        MangleTown x = new MangleTown();
        c.due("P2 nothing", x.feed(0, 0, 0), 0);
        c.due("P2 left out: 9, 11, 31, 127, 128, 255", x.feed(0x090B1F7F80FF0000L, 0, 0), 0);
        c.due("P2 kept: 10, 32, 126", x.feed(0x0A207E0000000000L, 0, 0), 3);
        c.due("P2 all 24", x.feed(0x6161616161616161L, 0x6161616161616161L, 0x6161616161616161L), 27);
        c.due("P2 count", x.count(14), 27);
        c.due("P2 highest byte first", x.town(), at(1, 2));
        c.due("P2 taken", x.count(14), 0);
        c.due("P2 order of a, b, c", x.feed(0x6761L, 0x7020L, 0x373BL), 6);
        c.due("P2 gap 7;", x.town(), 0);
        c.due("P2 gap", x.count(1), 7);
        for (int i = 0; i < 42; i++) {
            x.feed(0x2020202020202020L, 0x2020202020202020L, 0x2020202020202020L);
        }
        c.due("P2 1000 at most", x.count(14), 1000);
        c.due("P2 beyond 1000", x.feed(0x61L, 0, 0), 1000);
        c.due("P2 blanks are a town", x.town(), 0);
        c.due("P2 no tape", x.town(), 0);
    }

    private static void fault(String text, int want) {
        MangleTown x = new MangleTown();
        c.due("P3 town " + text, Checks.town(x, text), want);
    }

    private static void townFaults() {
        String a = house("a", "plain", 1, 0, 0);
        String ab = a + house("b", "cat", 1, 0, 0);
        fault("", 0);
        fault(";", at(1, 0));
        fault("put a 1;", at(1, 0));
        fault("house", at(1, 5));
        fault("house ", at(1, 6));
        fault("house wet plain", at(1, 6));
        fault("house run plain", at(1, 6));
        fault("house cat cat thick 1 wet 1 ink 1;", at(1, 6));
        fault("house not cat thick 1 wet 1 ink 1;", at(1, 6));
        fault(house("wide", "cat", 1, 0, 0) + house("wall", "cat", 1, 0, 0) + house("damp", "cat", 1, 0, 0)
                + house("between", "cat", 1, 0, 0) + house("black", "cat", 1, 0, 0), 0);
        fault(a + "house a plain", at(3, a.length() + 6));
        fault(a + "house b a", at(1, a.length() + 8));
        fault("house a plain wet 1", at(1, 14));
        fault("house a plain thick 1 wet 0 ink 0", at(1, 33));
        fault(ab + "shuns", at(1, ab.length() + 5));
        fault(ab + "shuns cat b;", at(1, ab.length() + 6));
        fault(ab + "shuns z b;", at(2, ab.length() + 6));
        fault(ab + "shuns a z;", at(2, ab.length() + 8));
        fault(ab + "shuns a a;", at(3, ab.length() + 8));
        fault(ab + "shuns a b;shuns b a;", 0);
        fault(ab + "shuns a b;shuns a b;", at(3, ab.length() + 18));
        fault(a + "shuns a b;" + house("b", "cat", 1, 0, 0), at(2, a.length() + 8));
        fault("gap 1;gap 1;", at(3, 6));
        fault("rains 1;rains 1;", at(3, 8));
        fault("price 1;price 1;", at(3, 8));
        fault("presses 1;presses 1;", at(3, 10));
        fault("prints 1;prints 1;", at(3, 9));
        fault("gap 1;price 1;gap 1;", at(3, 14));
        fault("rains 1;prints 1;presses 1;prints 2;", at(3, 27));
        fault("gap 20;", 0);
        fault("gap 21;", at(4, 4));
        fault("gap 0;", at(4, 4));
        fault("gap -1;", at(1, 4));
        fault("price 0;", 0);
        fault("price 99;", 0);
        fault("price 100;", at(4, 6));
        fault("rains 0 9;", 0);
        fault("rains 10;", at(4, 6));
        fault("rains 1 2 3 4 5 6 7 8 9 0 1 2;", 0);
        fault("rains 1 2 3 4 5 6 7 8 9 0 1 2 3;", at(5, 30));
        fault("rains 1 2 3 4 5 6 7 8 9 0 1 2 9;", at(5, 30));
        fault("rains 1 2 3 4 5 6 7 8 9 0 1 2 10;", at(4, 30));
        fault("rains 1 2 3 4 5 6 7 8 9 0 1 2 a;", at(1, 30));
        fault("gap 0; ?", at(4, 4));
    }

    private static void tokenFaults() {
        fault("house abcdefgh cat thick 1 wet 0 ink 0;", 0);
        fault("house abcdefghi cat thick 1 wet 0 ink 0;", at(1, 6));
        fault("gap 0007;", 0);
        fault("gap 00007;", at(1, 4));
        fault("gap7;price8;\nrains1 2;", 0);
        fault("gap 7;price 8;rains 1 2;house a cat thick 1wet 0ink 0;", 0);
        fault("Gap 7;", at(1, 0));
        fault("gap 7.", at(1, 5));
        fault("gap\n\n7 ; \n", 0);
        fault("gap 7  ", at(1, 7));
        fault("housea cat thick 1 wet 0 ink 0;", at(1, 0));
    }

    private static void lawFaults() {
        fault("presses;", at(1, 7));
        fault("presses 1 2;", at(1, 10));
        fault("presses 9999;", 0);
        fault("presses black;", at(1, 8));
        fault("presses wall;", at(1, 8));
        fault("prints black+wall;", 0);
        fault("presses ink;", at(1, 8));
        fault("presses 1<2<3;", at(1, 11));
        fault("presses 1=2 and 3<4 or not 5;", 0);
        fault("presses 1 and;", at(1, 13));
        fault("presses (1;", at(1, 10));
        fault("presses 1);", at(1, 9));
        fault("presses ();", at(1, 9));
        fault("presses -1;", at(1, 8));
        fault("presses 1+*2;", at(1, 10));
        fault("presses ((((1))));", 0);
        fault("presses (((((1)))));", at(5, 13));
        fault("presses 1+(((((1)))));", at(5, 15));
        fault("presses 1*(((((1)))));", at(5, 15));
        fault("presses 1<(((((1)))));", at(5, 15));
        fault("presses 1=(((((1)))));", at(5, 15));
        fault("presses 1 or(((((1)))));", at(5, 17));
        fault("presses not not not not 1;", 0);
        fault("presses not not not not not 1;", at(5, 28));
        fault("presses not not not not not not 1;", at(5, 28));
        fault("presses not(not(not 1;", at(5, 20));
        fault("presses (not(not(;", at(1, 17));
        fault("presses ((((();", at(1, 13));
        fault("presses (((((;", at(1, 13));
        fault("presses not(not 1+not(2))*3;", 0);
    }

    private static void houseBounds() {
        String open = "house a stout thick ";
        fault(open + "0 wet 0 ink 0;", at(4, 20));
        fault(open + "20 wet 99 ink 9;", 0);
        fault(open + "21 wet 0 ink 0;", at(4, 20));
        fault(open + "1 wet 100 ink 0;", at(4, 26));
        fault(open + "1 wet 1 ink 10;", at(4, 32));
        fault(open + "wet 1 ink 10;", at(1, 20));
        StringBuilder seven = new StringBuilder();
        for (char n = 'a'; n <= 'g'; n++) {
            seven.append(house("" + n, "cat", 1, 0, 0));
        }
        fault(seven.toString(), 0);
        fault(seven + "house ?", at(5, seven.length()));
    }

    private static void yearsFault(String text, int want) {
        MangleTown x = Checks.of(house("a", "plain", 1, 9, 0) + house("bb", "cat", 1, 0, 0));
        c.due("P4 years " + text, Checks.years(x, text), want);
        c.due("P4 tape taken", x.count(14), 0);
    }

    private static void yearsFaults() {
        yearsFault("", 0);
        yearsFault("put a 0;put bb 6;road a;run;sell 1;sell 99;", 0);
        yearsFault("put a 7;", at(4, 6));
        yearsFault("put z 0;", at(2, 4));
        yearsFault("put road 0;", at(1, 4));
        yearsFault("put a;", at(1, 5));
        yearsFault("road a 1;", at(1, 7));
        yearsFault("road zz;", at(2, 5));
        yearsFault("sell 0;", at(4, 5));
        yearsFault("sell 100;", at(4, 5));
        yearsFault("sell a;", at(1, 5));
        yearsFault("run", at(1, 3));
        yearsFault("gap 5;", at(1, 0));
        yearsFault("a;", at(1, 0));
        String forty = "run;".repeat(40);
        yearsFault(forty, 0);
        yearsFault(forty + "sell ?", at(5, 160));
        yearsFault(forty + "gap", at(1, 160));
        MangleTown x = Checks.of(house("a", "plain", 1, 9, 0));
        c.due("P4 three lines", Checks.years(x, "run;run;run;"), 0);
        c.due("P4 lines", x.count(10), 3);
        c.due("P4 a fault", Checks.years(x, "run;run"), at(1, 7));
        c.due("P4 all stays", x.count(10), 3);
        c.due("P4 others", Checks.years(x, "road a;"), 0);
        c.due("P4 in their place", x.count(10), 1);
    }

    private static void townBeginsAnew() {
        MangleTown x = Checks.of(house("a", "plain", 6, 9, 3) + house("b", "stout", 4, 8, 2) + "price 2;rains 4 5;");
        x.put(0, 1);
        x.road(1);
        x.run();
        x.sell(1);
        x.hear(9);
        x.see(0, 1);
        for (int i = 0; i < 4; i++) {
            x.mark(i, false);
        }
        Checks.years(x, "run;");
        c.due("P3 faulty", Checks.town(x, "gap 7;gap"), at(3, 6));
        c.due("P3 gap stays", x.count(1), 5);
        c.due("P3 coins stay", x.count(7), 2);
        c.due("P3 undo stays", x.count(13), 4);
        c.due("P3 mark stays", x.mark(2, true), true);
        x.put(0, 1);
        c.due("P3 another", Checks.town(x, house("z", "cat", 3, 7, 1)), 0);
        int[] want = {1, 5, 3, 0, 1, 0, 0, 0, 7, 0, 0, 0, -1, 0, 0};
        for (int i = 0; i < want.length; i++) {
            c.due("P3 anew, count " + i, x.count(i), want[i]);
        }
        for (int i = 0; i < 4; i++) {
            c.due("P3 no mark", x.mark(i, true), false);
        }
        c.due("P3 kind", x.house(0, 0), 3);
        c.due("P3 names of the new town", Checks.years(x, "road a;"), at(2, 5));
        c.due("P3 second town's shuns are its own", Checks.town(x, house("a", "plain", 3, 7, 1)
                + house("b", "plain", 3, 7, 1) + "shuns b a;"), 0);
        c.due("P3 shunned", x.shunned(), 1);
        c.due("P3 third", Checks.town(x, house("a", "plain", 3, 7, 1) + house("b", "plain", 3, 7, 1)), 0);
        c.due("P3 no shuns told", x.shunned(), 0);
    }

    /** As many tokens as a tape can hold. */
    private static void longest() {
        StringBuilder all = new StringBuilder("house a cat thick 1 wet 99 ink 1;presses 1");
        while (all.length() + 5 <= 1000) {
            all.append("-0+0");
        }
        all.append(";");
        c.due("P8 the longest law", Checks.of(all.toString()).pressed(0), 1);
        StringBuilder ones = new StringBuilder("house a cat thick 1 wet 99 ink 1;presses 1");
        while (ones.length() + 3 <= 1000) {
            ones.append("*1");
        }
        ones.append(";");
        c.due("P8 the longest product", Checks.of(ones.toString()).pressed(0), 1);
    }

    private static void press(String law, int want) {
        MangleTown x = Checks.of(house("a", "plain", 7, 60, 3) + "gap 4;presses " + law + ";");
        c.due("P8 presses " + law, x.pressed(0), want);
    }

    private static void laws() {
        press("wide", 7);
        press("damp", 60);
        press("between", 4);
        press("2+3*4", 14);
        press("(2+3)*4", 20);
        press("20-3-4", 13);
        press("2-3", 0);
        press("99", 60);
        press("9999", 60);
        press("not 0+5", 6);
        press("not 7", 0);
        press("not wide*0", 0);
        press("not(wide*0)", 1);
        press("1<2", 1);
        press("2<2", 0);
        press("2=2", 1);
        press("1+1=2", 1);
        press("(3<4)+(4<3)+(5=5)", 2);
        press("3 and 4", 1);
        press("3 and 0", 0);
        press("0 or 4", 1);
        press("0 or 0", 0);
        press("1 or 1 and 0", 0);
        press("0 and 1 or 5", 1);
        press("1 or (1 and 0)", 1);
        press("wide<damp and between<wide", 1);
        press("9999*9999*9999*0+7", 7);
        // 9999^3 wraps to a number below 0; its opposite is above.
        press("(9999*9999*9999<0)*10+3", 9999 * 9999 * 9999 < 0 ? 13 : 3);
        press("(9999*9999*22<0)*10+3", 9999 * 9999 * 22 < 0 ? 13 : 3);
        StringBuilder full = new StringBuilder("1");
        for (int i = 0; i < 40; i++) {
            full.append("+1");
        }
        press(full.toString(), 41);
        press("0 or 5=2+3*(0 or 5=2+3*(0 or 5=2+3*(0 or 5=2+3*(0 or 5=2+3*1))))", 1);
        press("0 or 5=2+3*(0 or 5=2+3*(0 or 5=2+3*(0 or 5=2+3*(0 or 5=2+3*2))))", 0);
        longest();
    }
}
