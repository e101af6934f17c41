/** Boundaries of E, promises 3, 8, 9 and 12: how laws are read and worked out. One test for each sentence. */
public final class EdgeLawTest {
    private static final Edges e = new Edges();
    private static final String[] JOINTS = {"*", "+", "-", "<", "=", " and ", " or "};

    public static void main(String[] args) {
        withinFour();
        withinFive();
        withinSix();
        withinFiveElse();
        withinBesides();
        withinOfPrints();
        withinMost();
        factsOfPresses();
        factsOfPrints();
        noFacts();
        partsAtLeast();
        parentheses();
        oneComparison();
        numbers();
        ofNot();
        ofAndOr();
        ofLess();
        ofSame();
        fromTheLeft();
        intsWrap();
        withoutPresses();
        withoutPressesHalf();
        withoutPrints();
        pressedAtMost();
        pressedItsWet();
        pressedAtLeast();
        printedBounds();
        printedOnACat();
        printedBehindNobody();
        factsAsAllIsNow();
        longest();
        e.end();
    }

    /** One house, 7 thick, wet 99, ink 3, the gap 4: what is pressed out of it is the law's worth, 0 to 99. */
    private static void worth(String law, int want) {
        String town = Edges.house("a", "plain", 7, 99, 3) + "gap 4;presses " + law + ";";
        e.town(town, 0);
        e.due("P8 presses " + law, Checks.of(town).pressed(0), want);
    }

    private static void told(String law) {
        e.town("presses " + law + ";", 0);
        e.town("prints " + law + ";", 0);
    }

    private static void wrong(String law, int kind, int place) {
        e.noTown("presses " + law + ";", kind, 8 + place);
        e.noTown("prints " + law + ";", kind, 7 + place);
    }

    /** As many of not and ( as told, which of them by the bits. */
    private static String openers(int bits, int many) {
        StringBuilder out = new StringBuilder();
        for (int i = 0; i < many; i++) {
            out.append((bits >> i & 1) == 0 ? "(" : "not ");
        }
        return out.toString();
    }

    private static String closers(int bits, int many) {
        return ")".repeat(many - Integer.bitCount(bits));
    }

    /** Terms: "no PART lies within 5 of not and ( )": within 4, whatever they are. */
    private static void withinFour() {
        for (int many = 0; many <= 4; many++) {
            for (int bits = 0; bits < 1 << many; bits++) {
                worth(openers(bits, many) + "1" + closers(bits, many), Integer.bitCount(bits) % 2 == 0 ? 1 : 0);
            }
        }
    }

    /** Terms: "no PART lies within 5 of not and ( )"; FAULT 5 "a PART, within 5 others". */
    private static void withinFive() {
        for (int bits = 0; bits < 32; bits++) {
            String open = openers(bits, 5);
            for (String part : new String[] {"1", "damp"}) {
                wrong(open + part + closers(bits, 5), 5, open.length());
            }
        }
    }

    /** Terms: FAULT "5 [..]: not, or a PART, within 5 others": not and ( themselves. */
    private static void withinSix() {
        for (int bits = 0; bits < 64; bits++) {
            wrong(openers(bits, 6) + "1" + closers(bits, 6), 5, openers(bits & 31, 5).length());
        }
    }

    /** Terms: FAULTS "of the first token [..] wrong the least": within 5 others, what can't stand is that. */
    private static void withinFiveElse() {
        for (String other : new String[] {")", ";", "+", "and", "or", "zzz", "house", "12345", "abcdefghi", "?"}) {
            wrong("(((((" + other, 1, 5);
            wrong("not not not not not " + other, 1, 20);
        }
        e.noTown("presses (((((black)))));", 1, 13);
        e.noTown("prints (((((black)))));", 5, 12);
        e.noTown("presses (((((", 1, 13);
    }

    /** Terms: "within 5": what is closed, or beside, does not count. */
    private static void withinBesides() {
        worth("((((1))))+((((2))))", 3);
        worth("not not not not 1+not not not not 1", 2);
        worth("(((1)+((2)+(3)))*(4))", 24);
        for (String joint : JOINTS) {
            told("1" + joint + "((((1))))");
            told("((((1))))" + joint + "((((1" + joint + "1))))");
            wrong("1" + joint + "(((((1)))))", 5, 6 + joint.length());
            wrong("((((1" + joint + "(1)))))", 5, 6 + joint.length());
        }
    }

    /** Terms: "no PART lies within 5": of a law behind another one, too. */
    private static void withinOfPrints() {
        e.town("presses ((((1))));prints ((((1))));", 0);
        e.noTown("presses ((((1))));prints (((((1)))));", 5, 30);
    }

    /** Terms: "no PART lies within 5": as deep as can be, with all that can wait on the left of each. */
    private static void withinMost() {
        String waits = "0 or 5=2+3*(";
        worth(waits.repeat(4) + "0 or 5=2+3*1" + "))))", 1);
        worth(waits.repeat(4) + "0 or 5=2+3*2" + "))))", 0);
        wrong(waits.repeat(5) + "1)))))", 5, 5 * waits.length());
        String nots = "1 and 2<9-4*not ";
        worth("1 and 2<9-4*not not not not wide", 1);
        worth(nots + "(1 and 2<9-4*not (1 and 3<9-3*wide))", 1);
    }

    /** Terms: "Facts: wide (the HOUSE's thickness), damp (its wet now), between (the gap now)". */
    private static void factsOfPresses() {
        worth("wide", 7);
        worth("damp", 99);
        worth("between", 4);
        // Behind what waits on their left, too.
        worth("1+2*wide", 15);
        worth("1 and 0=2*wide-14", 1);
        worth("1+0*damp", 1);
        worth("1+2*between", 9);
        printed("1+2*wall-8", 7);
        printed("1+2*black", 7);
        printed("1 or 1+2*black", 1);
    }

    private static void printed(String law, int want) {
        String town = Edges.house("a", "plain", 7, 50, 3) + Edges.house("b", "plain", 5, 8, 6)
                + "gap 4;prints " + law + ";";
        e.due("P9 prints " + law, Checks.of(town).blot(0, 1), want);
    }

    /** Terms: "of prints, too, black (the ink of the one ahead of it), wall (the thickness of that)". */
    private static void factsOfPrints() {
        printed("wide", 5);
        printed("damp", 8);
        printed("between", 4);
        printed("black", 3);
        printed("wall", 7);
        e.noTown("presses black;", 1, 8);
        e.noTown("presses wall;", 1, 8);
        e.noTown("presses 1+black;", 1, 10);
        e.noTown("prints black;presses wall;", 1, 21);
    }

    /** Terms: "PART: a NUMBER, a fact, not PART, ( E )": other words are none, a house's NAME neither. */
    private static void noFacts() {
        for (String word : new String[] {"ink", "wet", "thick", "gap", "a", "house", "and", "or", "cat", "wides",
            "wid", "betweens"}) {
            wrong(word, 1, 0);
            wrong("1+" + word, 1, 2);
        }
        String a = Edges.house("a", "plain", 1, 0, 0);
        e.noTown(a + "presses a;", 1, a.length() + 8);
    }

    /** Terms: "TEST: SUM, [..] SUM: PRODUCT [..] PRODUCT: PART": a joint has a PART on both sides. */
    private static void partsAtLeast() {
        wrong("", 1, 0);
        wrong("not", 1, 3);
        wrong("1 1", 1, 2);
        wrong("1 not 1", 1, 2);
        wrong("1(1)", 1, 1);
        for (String joint : JOINTS) {
            String bare = joint.trim();
            int blank = joint.length() - bare.length() > 0 ? 1 : 0;
            told("1" + joint + "1");
            wrong(bare + " 1", 1, 0);
            wrong("1" + joint, 1, 1 + joint.length());
            wrong("1" + joint + bare + " 1", 1, 1 + joint.length());
            wrong("(1" + joint + ")", 1, 2 + joint.length());
            wrong("1)" + joint + "1", 1, 1);
            e.noTown("presses 1" + joint, 1, 9 + blank + bare.length() + blank);
        }
    }

    /** Terms: "( E )": what is opened is closed, and has an E in it. */
    private static void parentheses() {
        told("(1)");
        told("(1 or 2)");
        wrong("()", 1, 1);
        wrong("(1", 1, 2);
        wrong("1)", 1, 1);
        wrong("(1))", 1, 3);
        wrong("((1)", 1, 4);
        wrong("(1;)", 1, 2);
        wrong("(1 2)", 1, 3);
        wrong("not()", 1, 4);
    }

    /** Terms: "TEST: SUM, or SUM < SUM, or SUM = SUM": one of these, no more. */
    private static void oneComparison() {
        for (String one : new String[] {"<", "="}) {
            for (String other : new String[] {"<", "="}) {
                wrong("1" + one + "2" + other + "3", 1, 3);
                told("(1" + one + "2)" + other + "3");
                told("1" + one + "2 and 2" + other + "3");
            }
        }
        worth("1+1<3", 1);
        worth("3<1+1", 0);
        worth("5*(1<2 and 2<3)", 5);
    }

    /** Terms: "PART: a NUMBER": 0 to 9999. */
    private static void numbers() {
        worth("0", 0);
        worth("0000", 0);
        worth("99", 99);
        worth("9999", 99);
        worth("9999-9950", 49);
        wrong("10000", 1, 0);
        wrong("00000", 1, 0);
        wrong("1+10000", 1, 2);
        worth("1or 0", 1);
        worth("(0)or(0)", 0);
    }

    /** Terms: "Of not [..] comes 1 or 0; what is not 0 is so". */
    private static void ofNot() {
        worth("not 0", 1);
        worth("not 1", 0);
        worth("not 2", 0);
        worth("not 9999", 0);
        worth("not(0-1)", 0);
        worth("not(1-1)", 1);
        worth("not not 5", 1);
        worth("not not 0", 0);
    }

    /** Terms: "Of [..] and, or, [..] comes 1 or 0; what is not 0 is so": of what is below 0, too. */
    private static void ofAndOr() {
        for (int one : new int[] {0, 1, 2, -1, -2}) {
            for (int other : new int[] {0, 1, 4, -1, -4}) {
                String left = one < 0 ? "(0-" + -one + ")" : "" + one;
                String right = other < 0 ? "(0-" + -other + ")" : "" + other;
                worth("(" + left + " and " + right + ")*7", one != 0 && other != 0 ? 7 : 0);
                worth("(" + left + " or " + right + ")*7", one != 0 || other != 0 ? 7 : 0);
            }
        }
    }

    /** Terms: "Of [..] < [..] comes 1 or 0". */
    private static void ofLess() {
        worth("(4<5)*7", 7);
        worth("(5<5)*7", 0);
        worth("(6<5)*7", 0);
        worth("(0-1<0)*7", 7);
        worth("(0<0-1)*7", 0);
        worth("(0-2<0-1)*7", 7);
    }

    /** Terms: "Of [..] = comes 1 or 0". */
    private static void ofSame() {
        worth("(5=5)*7", 7);
        worth("(4=5)*7", 0);
        worth("(6=5)*7", 0);
        worth("(0-5=5)*7", 0);
        worth("(0=0)*7", 7);
    }

    /** Terms: "E: TEST { and TEST or or TEST }, from the left", and sums, products likewise. */
    private static void fromTheLeft() {
        worth("1 or 1 and 0", 0);
        worth("1 or (1 and 0)", 1);
        worth("0 and 0 or 1", 1);
        worth("0 and (0 or 1)", 0);
        worth("20-3-4", 13);
        worth("20-3+4", 21);
        worth("20-(3+4)", 13);
        worth("2+3*4", 14);
        worth("2*3+4", 10);
        worth("30-2*3*4", 6);
        worth("not 0*5", 5);
        worth("not 0+5", 6);
        worth("5*not 0", 5);
        worth("1+2=3 and 2*2=4", 1);
        worth("2 and 3=3", 1);
    }

    /** Terms: "ints wrap": 2147483647 is the most, one more is the least. */
    private static void intsWrap() {
        // 9999*9999*21 is 2099580021, 9999*4790+8416 is 47903626: both together 2147483647.
        String most = "9999*9999*21+9999*4790+8416";
        worth("0<" + most, 1);
        worth(most + "+1<0", 1);
        worth(most + "+1=0-(" + most + ")-1", 1);
        worth("0-(" + most + ")-1<0", 1);
        worth("0<0-(" + most + ")-2", 1);
        worth("0-(" + most + ")-2=" + most, 1);
        worth("0<9999*9999*21", 1);
        worth("9999*9999*22<0", 1);
        worth(most + "+2-(" + most + ")", 2);
        worth("(" + most + ")*2", 0);
        worth("(" + most + ")*2+9", 7);
    }

    private static void plainPressed(int thick, int gap, int wet, int want) {
        MangleTown x = Checks.of(Edges.house("a", "plain", thick, wet, 0) + "gap " + gap + ";");
        e.due("P8 thick " + thick + ", gap " + gap + ", wet " + wet, x.pressed(0), want);
        e.due("P12 as much comes out", x.run(), want);
    }

    /** Terms: "Without presses: damp, if wide is above between". */
    private static void withoutPresses() {
        plainPressed(6, 5, 40, 40);
        plainPressed(5, 5, 40, 20);
        plainPressed(4, 5, 40, 20);
        plainPressed(20, 19, 99, 99);
        plainPressed(20, 20, 99, 49);
        plainPressed(1, 1, 99, 49);
        plainPressed(2, 1, 99, 99);
    }

    /** Terms: "else half of it, cut". */
    private static void withoutPressesHalf() {
        int[] wets = {0, 1, 2, 3, 98, 99};
        int[] halves = {0, 0, 1, 1, 49, 49};
        for (int i = 0; i < wets.length; i++) {
            plainPressed(1, 20, wets[i], halves[i]);
            plainPressed(2, 1, wets[i], wets[i]);
        }
    }

    /** Terms: "without prints: black": 0 and 9, too. */
    private static void withoutPrints() {
        MangleTown x = Checks.of(Edges.house("a", "plain", 9, 0, 0) + Edges.house("b", "plain", 9, 0, 9));
        e.due("P9 no ink", x.blot(0, 1), 0);
        e.due("P9 all ink", x.blot(1, 0), 9);
        x.run();
        e.due("P12 nothing printed", x.count(9), 0);
        x.put(1, 0);
        x.run();
        e.due("P12 9 printed", x.house(0, 4), 9);
    }

    /** Terms: "PRESSED out of a HOUSE: the E of presses (0 to 99": 99 at most. */
    private static void pressedAtMost() {
        worth("98", 98);
        worth("99", 99);
        worth("100", 99);
        worth("9999*9999", 99);
        worth("damp+1", 99);
    }

    /** Terms: "(0 to 99; its wet at most)". */
    private static void pressedItsWet() {
        for (int wet : new int[] {0, 1, 50, 98}) {
            for (int law : new int[] {0, 1, 49, 50, 51, 98, 99, 100}) {
                MangleTown x = Checks.of(Edges.house("a", "cat", 1, wet, 0) + "rains 0;presses " + law + ";");
                e.due("P8 " + law + " of wet " + wet, x.pressed(0), Math.min(law, wet));
                e.due("P12 " + law + " of wet " + wet, x.run(), Math.min(law, wet));
                e.due("P12 what stays", x.house(0, 2), wet - Math.min(law, wet));
            }
        }
    }

    /** Terms: "(0 to 99": 0 at least. */
    private static void pressedAtLeast() {
        worth("0-1", 0);
        worth("1-1", 0);
        worth("2-1", 1);
        worth("0-9999*9999", 0);
        MangleTown x = Checks.of(Edges.house("a", "plain", 7, 40, 3) + "rains 0;presses 0-1;");
        e.due("P12 nothing comes out", x.run(), 0);
        e.due("P12 all stays in", x.house(0, 2), 40);
        e.due("P12 no pints", x.count(6), 0);
    }

    /** Terms: "PRINTED on it [..]: the E of prints (0 to 9)". */
    private static void printedBounds() {
        String[] laws = {"0-9999", "0-1", "0", "1", "8", "9", "10", "9999*9999"};
        int[] want = {0, 0, 0, 1, 8, 9, 9, 9};
        for (int i = 0; i < laws.length; i++) {
            printed(laws[i], want[i]);
            MangleTown x = Checks.of(Edges.plain(3, 4, 4, 4) + "prints " + laws[i] + ";");
            e.due("P17 twice " + laws[i], x.best(-1), 2 * want[i]);
            x.run();
            e.due("P12 none on the first", x.house(0, 4), 0);
            e.due("P12 " + laws[i], x.house(1, 4), want[i]);
            e.due("P12 " + laws[i], x.house(2, 4), want[i]);
            e.due("P33 together", x.count(9), 2 * want[i]);
        }
    }

    /** Terms: "nothing on a cat". */
    private static void printedOnACat() {
        MangleTown x = Checks.of(Edges.house("a", "plain", 9, 9, 9) + Edges.house("b", "cat", 9, 9, 9)
                + Edges.house("c", "stout", 9, 9, 9) + Edges.house("d", "sharp", 9, 9, 9) + "prints 9;");
        x.run();
        int[] want = {0, 0, 9, 9};
        for (int h = 0; h < 4; h++) {
            e.due("P12 printed on " + h, x.house(h, 4), want[h]);
            e.due("P9 blot on " + h, x.blot(h == 0 ? 2 : 0, h), h == 1 ? 0 : 9);
        }
        e.due("P17 on two of three", x.best(-1), 18);
    }

    /** Terms: "PRINTED on it, if there is one ahead of it". */
    private static void printedBehindNobody() {
        MangleTown x = Checks.of(Edges.house("k", "cat", 9, 9, 9) + Edges.plain(2, 9, 9, 9) + "prints 9;");
        x.road(1);
        x.run();
        e.due("P12 only a cat, one on the road ahead", x.count(9), 0);
        x.road(1);
        x.run();
        e.due("P12 one ahead", x.house(2, 4), 9);
        e.due("P12 none ahead but a cat", x.house(1, 4), 0);
    }

    /** Terms: "damp (its wet now), between (the gap now)": by what a run has changed. */
    private static void factsAsAllIsNow() {
        MangleTown x = Checks.of(Edges.house("s", "sharp", 9, 40, 1) + Edges.house("t", "stout", 9, 40, 1)
                + "gap 3;rains 2;presses between*2;prints wall-between+damp-37;");
        e.due("P8 2*3", x.pressed(0), 6);
        e.due("P9 9-3+40-37", x.blot(0, 1), 9);
        // s gives 6, the gap is 4; t gives 8 and is 9-4+40-37 printed on.
        e.due("P12 6+8", x.run(), 14);
        e.due("P12 9-4+40-37", x.house(1, 4), 8);
        e.due("P8 2*4", x.pressed(0), 8);
        e.due("P9 on s, t being 8 thick: 8-4+36-37", x.blot(1, 0), 3);
        e.due("P9 on t: 9-4+34-37", x.blot(0, 1), 2);
    }

    /** Terms: "The TAPE has at most 1,000 signs": a law as long as that. */
    private static void longest() {
        String open = Edges.house("a", "cat", 1, 99, 1) + "presses 1";
        int pairs = (1000 - open.length() - 1) / 2;
        String blank = " ".repeat(1000 - open.length() - 1 - 2 * pairs);
        MangleTown x = Checks.of(open + "*1".repeat(pairs) + blank + ";");
        e.due("P8 a product of " + (pairs + 1), x.pressed(0), 1);
        MangleTown y = Checks.of(open + "+1".repeat(pairs) + blank + ";");
        e.due("P8 a sum of " + (pairs + 1), y.pressed(0), 99);
        MangleTown z = Checks.of(open + "-1".repeat(pairs - 1) + "+" + "9" + blank + ";");
        e.due("P8 a difference", z.pressed(0), 0);
        // One sign more: the ; is left out.
        e.town(open + "*1".repeat(pairs) + blank + " ;", Edges.at(1, 1000));
    }
}
