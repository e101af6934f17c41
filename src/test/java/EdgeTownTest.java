/** Boundaries of promise 3: towns told, line by line, and their faults. One test for each sentence. */
public final class EdgeTownTest {
    private static final Edges e = new Edges();
    private static final String[] KINDS = {"plain", "stout", "sharp", "cat"};
    private static final String A = Edges.house("a", "plain", 1, 0, 0);
    private static final String B = Edges.house("b", "plain", 1, 0, 0);
    private static final String SEVEN = Edges.plain(7, 1, 0, 0);
    private static final String TWELVE = "rains 1 2 3 4 5 6 7 8 9 0 1 2";

    public static void main(String[] args) {
        anyNumber();
        linesEnd();
        mostLines();
        sevenHouses();
        eighthHouse();
        numberedAsTold();
        kinds();
        thick();
        wet();
        ink();
        gap();
        gapOfNone();
        price();
        priceOfNone();
        rain();
        rainsTwelve();
        rainsAtLeastOne();
        rainsAgainAndAgain();
        rainsOfNone();
        shunsTold();
        shunsAnother();
        shunsOnce();
        shunsAll();
        onceEach();
        onceInEachTown();
        namesKept();
        namesFree();
        namesAlike();
        firstFromTheLeft();
        leastOfAToken();
        placeFromNought();
        faultLeavesAll();
        anew();
        anewTwice();
        anewOfNothing();
        anewOfNothingButALine();
        e.end();
    }

    private static MangleTown told(String text) {
        e.town(text, 0);
        return Checks.of(text);
    }

    /** A number at its least and its most, just outside of them, far off, and none at all. */
    private static void bounds(String ahead, String behind, int least, int most, int what) {
        String later = behind.stripLeading();
        int place = ahead.length();
        for (int number : new int[] {least, most}) {
            MangleTown x = told(ahead + number + behind);
            e.due(ahead + number, what < 10 ? x.house(0, what) : x.count(what - 10), number);
        }
        if (least > 0) {
            e.noTown(ahead + (least - 1) + behind, 4, place);
        }
        e.noTown(ahead + (most + 1) + behind, 4, place);
        e.noTown(ahead + "9999" + behind, 4, place);
        e.noTown(ahead + "10000" + behind, 1, place);
        e.noTown(ahead + "-1" + behind, 1, place);
        e.noTown(ahead + "x" + behind, 1, place);
        e.noTown(ahead + "(" + least + ")" + behind, 1, place);
        e.noTown(ahead + later, 1, place);
    }

    /** Terms: "TOWN: any number of [..]": none, each line alone, and in any order. */
    private static void anyNumber() {
        told("");
        for (String line : new String[] {A, "gap 1;", "rains 1;", "price 1;", "presses 1;", "prints 1;"}) {
            told(line);
        }
        told("prints 1;presses 1;price 1;rains 1;gap 1;" + A + B + "shuns a b;");
        told(A + "gap 1;" + B + "shuns a b;price 1;" + Edges.house("c", "cat", 1, 0, 0) + "shuns b a;shuns c a;");
    }

    /** Terms: each line of a TOWN ends with a ; which nothing else can stand for. */
    private static void linesEnd() {
        for (String line : new String[] {A, A + B + "shuns a b;", "gap 1;", "rains 1;", "price 1;", "presses 1;",
            "prints 1;"}) {
            String open = line.substring(0, line.length() - 1);
            e.town(line, 0);
            e.noTown(open, 1, open.length());
            e.noTown(open + " gap 1;", 1, open.length() + 1);
            e.noTown(open + ")", 1, open.length());
            e.noTown(line + ";", 1, line.length());
        }
    }

    /** Terms: "any number of [..]": all lines that there can be, 54. */
    private static void mostLines() {
        StringBuilder all = new StringBuilder();
        for (char one = 'a'; one <= 'g'; one++) {
            all.append("house ").append(one).append(" plain thick1wet0ink0;");
        }
        for (char one = 'a'; one <= 'g'; one++) {
            for (char other = 'a'; other <= 'g'; other++) {
                all.append(one == other ? "" : "shuns " + one + " " + other + ";");
            }
        }
        MangleTown x = told(all + "gap 20;price 99;" + TWELVE + ";presses 1;prints 1;");
        e.due("P3 7 houses", x.count(0), 7);
        e.due("P18 6 must go by the road", x.around(), 63);
        e.noTown(all + "shuns a b;", 3, all.length() + 8);
        e.noTown(all + "shuns g f;", 3, all.length() + 8);
    }

    /** Terms: "house: 7 at most". */
    private static void sevenHouses() {
        for (int many = 1; many <= 7; many++) {
            MangleTown x = told(Edges.plain(many, 1, 9, 0));
            e.due("P3 houses", x.count(0), many);
            e.due("P3 the last one", x.house(many - 1, 2), 9);
            e.due("P3 none behind it", x.house(many, 2), -1);
        }
    }

    /** Terms: FAULT "5 one too many: the word house of an eighth". */
    private static void eighthHouse() {
        e.noTown(SEVEN + Edges.house("h", "plain", 1, 0, 0), 5, SEVEN.length());
        e.noTown(SEVEN + "house", 5, SEVEN.length());
        e.noTown(SEVEN + "  house a", 5, SEVEN.length() + 2);
        e.noTown(SEVEN + "gap 7;house h", 5, SEVEN.length() + 6);
        told(SEVEN + "gap 7;");
        String open = SEVEN + "gap 7";
        e.noTown(open + " house h", 1, open.length() + 1);
        String sixth = Edges.plain(6, 1, 0, 0);
        e.noTown(sixth + "house", 1, sixth.length() + 5);
    }

    /** Terms: "house: [..] numbered as told", whatever their names. */
    private static void numberedAsTold() {
        MangleTown x = told(Edges.house("zz", "cat", 3, 0, 0) + "gap 9;" + Edges.house("a", "stout", 4, 0, 0)
                + Edges.house("mm", "sharp", 5, 0, 0));
        for (int h = 0; h < 3; h++) {
            e.due("P3 thick of " + h, x.house(h, 1), 3 + h);
            e.due("P3 place of " + h, x.house(h, 6), h);
        }
        Checks.years(x, "put zz 2;");
        e.due("P15 zz is 0", x.judged(0), -1);
    }

    /** Terms: "KIND: plain, stout, sharp, cat". */
    private static void kinds() {
        for (int kind = 0; kind < 4; kind++) {
            e.due("P5 kind " + KINDS[kind], told(Edges.house("a", KINDS[kind], 1, 0, 0)).house(0, 0), kind);
        }
        for (String other : new String[] {"fat", "a", "thick", "cats", "ca", "house", "not", "9", "Cat", "(cat)",
            ";"}) {
            e.noTown("house a " + other + " thick 1 wet 0 ink 0;", 1, 8);
        }
        e.noTown("house a thick 1 wet 0 ink 0;", 1, 8);
        e.noTown("house a cat cat thick 1 wet 0 ink 0;", 1, 12);
        e.noTown("house cat thick 1 wet 0 ink 0;", 1, 6);
    }

    /** Terms: "thick 1 to 20". */
    private static void thick() {
        bounds("house a plain thick ", " wet 0 ink 0;", 1, 20, 1);
        e.noTown("house a plain 1 wet 0 ink 0;", 1, 14);
        e.noTown("house a plain wet 0 thick 1 ink 0;", 1, 14);
    }

    /** Terms: "wet 0 to 99". */
    private static void wet() {
        bounds("house a plain thick 1 wet ", " ink 0;", 0, 99, 2);
        e.noTown("house a plain thick 1 ink 0 wet 0;", 1, 22);
    }

    /** Terms: "ink 0 to 9". */
    private static void ink() {
        bounds("house a plain thick 1 wet 0 ink ", ";", 0, 9, 3);
        e.noTown("house a plain thick 1 wet 0;", 1, 27);
        e.noTown("house a plain thick 1 wet 0 ink 0 ink 0;", 1, 34);
    }

    /** Terms: "gap 1 to 20". */
    private static void gap() {
        bounds("gap ", ";", 1, 20, 11);
    }

    /** Terms: "gap 1 to 20 (5)": without one, also behind a town that told one. */
    private static void gapOfNone() {
        e.due("P3 gap of none", told(A).count(1), 5);
        MangleTown x = told("gap 20;");
        Checks.town(x, A);
        e.due("P3 gap of none behind another", x.count(1), 5);
    }

    /** Terms: "price 0 to 99". */
    private static void price() {
        bounds("price ", ";", 0, 99, 12);
    }

    /** Terms: "price 0 to 99 (3)". */
    private static void priceOfNone() {
        e.due("P3 price of none", told(A).count(2), 3);
        MangleTown x = told("price 99;");
        Checks.town(x, A);
        e.due("P3 price of none behind another", x.count(2), 3);
    }

    /** Terms: "rains: 0 to 9 of one fortnight behind another": the first, and one behind others. */
    private static void rain() {
        bounds("rains ", ";", 0, 9, 14);
        told("rains 9 0 9;");
        e.noTown("rains 9 10 9;", 4, 8);
        e.noTown("rains 0 0 9999;", 4, 10);
        e.noTown("rains 0 0 12345;", 1, 10);
        e.noTown("rains 0 -1;", 1, 8);
        String eleven = "rains 1 2 3 4 5 6 7 8 9 0 1 ";
        told(eleven + "9;");
        e.noTown(eleven + "10;", 4, eleven.length());
    }

    /** Terms: "1 to 12" rains; FAULT "5 one too many: [..] a thirteenth NUMBER of rains". */
    private static void rainsTwelve() {
        told(TWELVE.substring(0, TWELVE.length() - 2) + ";");
        told(TWELVE + ";");
        e.noTown(TWELVE + " 3;", 5, TWELVE.length() + 1);
        e.noTown(TWELVE + " 0", 5, TWELVE.length() + 1);
        e.noTown(TWELVE + " 9 9 9;", 5, TWELVE.length() + 1);
        e.noTown(TWELVE + " \n 0009;", 5, TWELVE.length() + 3);
    }

    /** Terms: "1 to 12" rains: none is too few. */
    private static void rainsAtLeastOne() {
        told("rains 0;");
        e.noTown("rains;", 1, 5);
        e.noTown("rains", 1, 5);
        e.noTown("rains x;", 1, 6);
        e.noTown("rains gap 1;", 1, 6);
    }

    /** Terms: "one fortnight behind another, 1 to 12, again and again". */
    private static void rainsAgainAndAgain() {
        MangleTown twelve = told(TWELVE + ";");
        MangleTown two = told("rains 9 0;");
        MangleTown one = told("rains 7;");
        int[] rains = {1, 2, 3, 4, 5, 6, 7, 8, 9, 0, 1, 2};
        for (int fortnight = 0; fortnight <= 48; fortnight++) {
            e.due("P33 rain of 12, fortnight " + fortnight, twelve.count(4), rains[fortnight % 12]);
            e.due("P33 rain of 2, fortnight " + fortnight, two.count(4), fortnight % 2 == 0 ? 9 : 0);
            e.due("P33 rain of 1, fortnight " + fortnight, one.count(4), 7);
            twelve.run();
            two.run();
            one.run();
        }
    }

    /** Terms: rains "(one of 1)", also behind a town that told twelve. */
    private static void rainsOfNone() {
        MangleTown x = told(A + TWELVE + ";");
        Checks.town(x, A + "presses 0;");
        for (int fortnight = 0; fortnight <= 13; fortnight++) {
            e.due("P33 rain of none", x.count(4), 1);
            e.due("P12 wet by the rain of none", x.house(0, 2), fortnight);
            x.run();
        }
    }

    /** Terms: "shuns: a HOUSE told"; FAULT "2 a NAME of no HOUSE (behind shuns, put, road) told". */
    private static void shunsTold() {
        told(A + B + "shuns a b;");
        e.noTown("shuns a b;" + A + B, 2, 6);
        e.noTown(A + "shuns b a;" + B, 2, A.length() + 6);
        e.noTown(A + "shuns a b;" + B, 2, A.length() + 8);
        e.noTown(A + B + "shuns c d;", 2, A.length() * 2 + 6);
        e.noTown(A + B + "shuns a bb;", 2, A.length() * 2 + 8);
        e.noTown(A + B + "shuns c c;", 2, A.length() * 2 + 6);
        // hall and inn are told of rich's town, not of this one.
        e.noTown(A + B + "shuns hall inn;", 2, A.length() * 2 + 6);
        e.noTown(A + B + "shuns a inn;", 2, A.length() * 2 + 8);
        e.noTown(A + B + "shuns;", 1, A.length() * 2 + 5);
        e.noTown(A + B + "shuns a;", 1, A.length() * 2 + 7);
        e.noTown(A + B + "shuns a b b;", 1, A.length() * 2 + 10);
        e.noTown(A + B + "shuns 0 1;", 1, A.length() * 2 + 6);
    }

    /** Terms: shuns "another one"; FAULT 3 "the second NAME of shuns that is the first one". */
    private static void shunsAnother() {
        e.noTown(A + B + "shuns a a;", 3, A.length() * 2 + 8);
        e.noTown(A + B + "shuns b b;", 3, A.length() * 2 + 8);
        e.noTown(A + "shuns a a", 3, A.length() + 8);
        e.due("P16 b behind a", told(A + B + "shuns b a;").shunned(), 1);
        e.due("P16 a ahead of b", told(A + B + "shuns a b;").shunned(), 0);
    }

    /** Terms: "each so once"; FAULT 3 "the second NAME of shuns that is [..] of two told so". */
    private static void shunsOnce() {
        int ahead = A.length() * 2;
        told(A + B + "shuns a b;shuns b a;");
        e.noTown(A + B + "shuns a b;shuns a b;", 3, ahead + 18);
        e.noTown(A + B + "shuns a b;shuns b a;shuns b a;", 3, ahead + 28);
        e.noTown(A + B + "shuns a b;gap 5;shuns a b;", 3, ahead + 24);
        MangleTown x = told(A + B + "shuns b a;");
        e.due("P3 again in another town", Checks.town(x, A + B + "shuns b a;"), 0);
        e.due("P16 one", x.shunned(), 1);
    }

    /** Terms: shuns of the last of seven houses, both ways. */
    private static void shunsAll() {
        MangleTown x = told(SEVEN + "shuns g f;shuns a g;");
        e.due("P16 g behind f", x.shunned(), 1);
        x.put(6, 0);
        e.due("P16 a behind g", x.shunned(), 1);
        x.put(6, 1);
        e.due("P16 g behind a, b behind g", x.shunned(), 0);
        e.noTown(SEVEN + "shuns g g;", 3, SEVEN.length() + 8);
        e.noTown(SEVEN + "shuns g h;", 2, SEVEN.length() + 8);
    }

    /** Terms: "gap, rains, price, presses, prints: once each"; FAULT 3 "[..] a second time". */
    private static void onceEach() {
        String[] lines = {"gap 1;", "rains 1;", "price 1;", "presses 1;", "prints 1;"};
        for (int i = 0; i < 5; i++) {
            StringBuilder others = new StringBuilder(lines[i]);
            for (int j = 0; j < 5; j++) {
                others.append(i == j ? "" : lines[j]);
            }
            told(others.toString());
            e.noTown(lines[i] + lines[i], 3, lines[i].length());
            e.noTown(others + lines[i], 3, others.length());
            // The word is wrong, whatever stands behind it.
            e.noTown(lines[i] + lines[i].substring(0, lines[i].indexOf(' ')), 3, lines[i].length());
        }
    }

    /** Terms: "once each": of one town, and a town that was refused does not count. */
    private static void onceInEachTown() {
        String all = "gap 2;rains 2;price 2;presses 2;prints 2;";
        MangleTown x = told(all);
        e.due("P3 a second town", Checks.town(x, all), 0);
        e.due("P3 a third one with a fault", Checks.town(x, all + "gap"), Edges.at(3, all.length()));
        e.due("P3 a fourth town", Checks.town(x, all), 0);
    }

    /** Terms: "A NAME is another WORD than house, thick, [..] or": none of them can stand there. */
    private static void namesKept() {
        int two = A.length() * 2;
        for (String word : Edges.KEPT) {
            e.noTown("house " + word + " plain thick 1 wet 0 ink 0;", 1, 6);
            e.noTown(A + B + "shuns " + word + " a;", 1, two + 6);
            e.noTown(A + B + "shuns a " + word + ";", 1, two + 8);
        }
    }

    /** Terms: "A NAME is another WORD": facts, and words but a letter off. */
    private static void namesFree() {
        for (String word : new String[] {"wide", "damp", "between", "black", "wall", "o", "zzzzzzzz"}) {
            told(Edges.house(word, "plain", 1, 0, 0));
        }
        for (String word : Edges.KEPT) {
            told(Edges.house(word + "s", "plain", 1, 0, 0));
            told(Edges.house(word.substring(1), "plain", 1, 0, 0));
        }
        MangleTown x = told(Edges.house("wide", "plain", 5, 90, 0) + Edges.house("damp", "plain", 1, 0, 0)
                + "shuns damp wide;presses wide;");
        e.due("P16 names", x.shunned(), 1);
        e.due("P8 a fact", x.pressed(0), 5);
    }

    /** Terms: NAMES: "no two are alike"; FAULT "3 a NAME told already". */
    private static void namesAlike() {
        told(A + Edges.house("aa", "cat", 1, 0, 0) + Edges.house("aaaaaaaa", "cat", 1, 0, 0)
                + Edges.house("aaaaaaab", "cat", 1, 0, 0) + Edges.house("baaaaaaa", "cat", 1, 0, 0));
        e.noTown(A + A, 3, A.length() + 6);
        e.noTown(A + B + A, 3, A.length() * 2 + 6);
        e.noTown(A + B + B, 3, A.length() * 2 + 6);
        e.noTown(A + "house a", 3, A.length() + 6);
        String sixth = Edges.plain(6, 1, 0, 0);
        e.noTown(sixth + "house f plain", 3, sixth.length() + 6);
        told(sixth + Edges.house("ff", "cat", 1, 0, 0));
        // hall is told of rich's town, not of this one.
        MangleTown x = Edges.rich();
        e.due("P3 a name of the elder town", Checks.town(x, Edges.house("hall", "cat", 1, 0, 0)), 0);
    }

    /** Terms: FAULTS "of the first token from the left that is wrong". */
    private static void firstFromTheLeft() {
        e.noTown("gap 0;?", 4, 4);
        e.noTown("? gap 0;", 1, 0);
        e.noTown("house a fat thick 0", 1, 8);
        e.noTown("house a cat thick 0 wet 100 ink 10", 4, 18);
        e.noTown("house a cat thick 1 wet 100 ink 10", 4, 24);
        e.noTown(A + "house a fat", 3, A.length() + 6);
        e.noTown(A + "shuns b gap", 2, A.length() + 6);
        e.noTown("gap 7;gap 0;", 3, 6);
        e.noTown("presses black;presses 1;", 1, 8);
    }

    /** Terms: FAULTS "of the first token [..] that is wrong the least". */
    private static void leastOfAToken() {
        e.noTown(TWELVE + " 9;", 5, TWELVE.length() + 1);
        e.noTown(TWELVE + " 10;", 4, TWELVE.length() + 1);
        e.noTown(TWELVE + " 9999;", 4, TWELVE.length() + 1);
        e.noTown(TWELVE + " 10000;", 1, TWELVE.length() + 1);
        e.noTown(TWELVE + " x;", 1, TWELVE.length() + 1);
        e.noTown("gap 7;price gap 7;", 1, 12);
        e.noTown("gap 7;gapp 7;", 1, 6);
        e.noTown(SEVEN + "houses", 1, SEVEN.length());
        e.noTown(SEVEN + "shuns house a;", 1, SEVEN.length() + 6);
    }

    /** Terms: FAULTS "kind + 16 * the place (from 0) of a token": its first sign, blanks counted. */
    private static void placeFromNought() {
        e.noTown("x", 1, 0);
        e.noTown(" x", 1, 1);
        e.noTown("\n\n xyz", 1, 3);
        e.noTown("gap 21;", 4, 4);
        e.noTown("gap\n\n\n\n\n\n21;", 4, 9);
        e.noTown("gap0;", 4, 3);
    }

    /** Promise 3: "0, or its FAULT (all stays then)": also where all but the last token is right. */
    private static void faultLeavesAll() {
        String whole = SEVEN + "shuns a b;gap 20;price 99;" + TWELVE + ";presses 1;prints 1;";
        e.town(whole, 0);
        e.noTown(whole + "x", 1, whole.length());
        e.noTown(whole.substring(0, whole.length() - 1), 1, whole.length() - 1);
        e.noTown(whole + "shuns g z;", 2, whole.length() + 8);
        e.noTown(whole + "gap 1;", 3, whole.length());
        String most = SEVEN + "shuns a b;gap 20;price 99;presses 1;prints 1;rains 1 2 ";
        e.noTown(most + "10;", 4, most.length());
        e.noTown(whole + "house", 5, whole.length());
        e.leaves("P3 a fault with nothing told yet", Edges.at(5, whole.length()), MangleTown::new,
                x -> Checks.town(x, whole + "house"));
    }

    private static void isNew(String call, MangleTown x, int... counts) {
        for (int what = 0; what < counts.length; what++) {
            e.due(call + ", count " + what, x.count(what), counts[what]);
        }
        e.due(call + ", judged 0", x.judged(0), -1);
        e.due(call + ", judged 2", x.judged(2), 0);
        e.due(call + ", nothing can be undone", x.undo(), false);
        for (int mark = 0; mark < 4; mark++) {
            e.due(call + ", no mark " + mark, x.mark(mark, true), false);
        }
    }

    /** Terms: "Without a FAULT a TOWN is the TOWN from then on: fortnight 0, the ORDER as told, [..]". */
    private static void anew() {
        MangleTown x = Edges.rich();
        e.due("P3 another town", Checks.town(x, Edges.house("one", "plain", 7, 50, 2)
                + Edges.house("two", "plain", 3, 41, 6)), 0);
        isNew("P3 anew", x, 2, 5, 3, 0, 1, 0, 0, 0, 91, 0, 0, 0, -1, 0, 0);
        int[][] want = {{0, 7, 50, 2, 0, 0, 0}, {0, 3, 41, 6, 0, 0, 1}};
        for (int h = 0; h < 2; h++) {
            for (int what = 0; what <= 6; what++) {
                e.due("P3 anew, house " + h + " " + what, x.house(h, what), want[h][what]);
            }
            e.due("P3 anew, order", x.order(h), h);
        }
        e.due("P3 anew, none behind", x.house(2, 0), -1);
        e.due("P3 anew, the elder laws are gone", x.pressed(1), 20);
        e.due("P3 anew, the elder shuns are gone", x.shunned(), 0);
        e.due("P3 anew, all sets", x.sets(0), 4);
        e.due("P3 anew, all orders", x.orders(), 2);
        e.due("P3 anew, the elder names are gone", Checks.years(x, "road inn;"), Edges.at(2, 5));
    }

    /** Terms: "Without a FAULT a TOWN is the TOWN": nothing of the one before the last is left either. */
    private static void anewTwice() {
        String bare = A + B;
        MangleTown x = told(bare + "shuns b a;shuns a b;gap 9;price 9;rains 9 9 9;presses 7;prints 7;");
        for (int i = 0; i < 3; i++) {
            e.due("P3 a bare town", Checks.town(x, Edges.plain(2, 7, 40, 2)), 0);
            e.due("P3 no shuns told", x.shunned() + x.around(), 0);
            e.due("P3 no gap told", x.count(1), 5);
            e.due("P3 no price told", x.count(2), 3);
            e.due("P3 no rains told", x.count(4), 1);
            e.due("P3 no presses told", x.pressed(0), 40);
            e.due("P3 no prints told", x.blot(0, 1), 2);
            x.run();
            e.due("P3 no rains told", x.count(4), 1);
        }
        e.due("P3 a fault behind laws", Checks.town(x, bare + "shuns a b;presses 7;prints 7;x"),
                Edges.at(1, bare.length() + 29));
        e.due("P3 a bare town", Checks.town(x, Edges.plain(2, 7, 40, 2)), 0);
        e.due("P3 no presses told", x.pressed(0), 40);
        e.due("P3 no prints told", x.blot(0, 1), 2);
        x.put(1, 0);
        e.due("P3 no shuns told", x.shunned(), 0);
    }

    /** Terms: "Without a FAULT a TOWN is the TOWN": one of no signs, too. */
    private static void anewOfNothing() {
        for (String blank : new String[] {"", " ", "\n \n"}) {
            MangleTown x = Edges.rich();
            e.due("P3 a town of blanks", Checks.town(x, blank), 0);
            isNew("P3 a town of blanks", x, 0, 5, 3, 0, 1, 0, 0, 0, 0, 0, 0, 0, -1, 0, 0);
            e.due("P6 nobody", x.order(0), -1);
            e.due("P22 the empty set", x.sets(0), 1);
        }
    }

    /** Terms: a TOWN of no house that tells the rest: the elder houses are gone. */
    private static void anewOfNothingButALine() {
        MangleTown x = Edges.rich();
        e.due("P3 a gap alone", Checks.town(x, "gap 20;price 0;rains 9;"), 0);
        isNew("P3 a gap alone", x, 0, 20, 0, 0, 9, 0, 0, 0, 0, 0, 0, 0, -1, 0, 0);
        e.due("P12 nobody", x.run(), 0);
        e.due("P33 no wet", x.count(8), 0);
    }
}
