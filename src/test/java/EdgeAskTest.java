/** Boundaries of promises 16 to 20: shunned, best, around, till, dry. One test for each sentence. */
public final class EdgeAskTest {
    private static final Edges e = new Edges();
    private static final String CATS = Edges.house("k", "cat", 3, 9, 5) + Edges.house("m", "cat", 3, 9, 5);
    private static final String THREE = Edges.plain(3, 4, 9, 1);
    private static final String ALL_SHUN = "shuns a b;shuns a c;shuns b a;shuns b c;shuns c a;shuns c b;";

    public static void main(String[] args) {
        shunnedNobody();
        shunnedThatGo();
        shunnedCats();
        shunnedMost();
        bestOthers();
        bestNobody();
        bestNobodyGoes();
        bestThoseOnTheRoad();
        bestFirstRow();
        bestMost();
        bestCats();
        bestNoneShunned();
        bestElseAll();
        bestAsAllIsNow();
        aroundNobody();
        aroundFewest();
        aroundLeastSet();
        aroundThoseThatGo();
        aroundCats();
        aroundOfAnother();
        tillOthers();
        tillNow();
        tillOrMore();
        tillNinetyNine();
        tillMost();
        tillNothingElse();
        dryOthers();
        dryNow();
        dryNinetyNine();
        dryThatGoes();
        dryNobody();
        e.end();
    }

    private static void best(String call, MangleTown x, int much, int... row) {
        e.due(call + ", how much", x.best(-1), much);
        for (int place = 0; place < row.length; place++) {
            e.due(call + ", place " + place, x.best(place), row[place]);
        }
        e.due(call + ", beyond", x.best(row.length), -2);
    }

    /** Promise 16: "SHUNNED, how many": 0 where nobody is told, nobody GOES, one alone GOES. */
    private static void shunnedNobody() {
        e.leaves("P16 nobody", 0, MangleTown::new, x -> x.shunned());
        MangleTown x = Checks.of(THREE + ALL_SHUN);
        int[] want = {2, 1, 0, 0};
        for (int h = 0; h < 4; h++) {
            e.due("P16 " + (3 - h) + " go", x.shunned(), want[h]);
            x.road(h);
        }
        // inn is on the road, shop goes behind hall, whom it does not shun.
        e.leaves("P16 rich", 0, Edges::rich, y -> y.shunned());
    }

    /** Terms: "SHUNNED: how many that GO have ahead of them one whom they shun". */
    private static void shunnedThatGo() {
        MangleTown x = Checks.of(THREE + "shuns c b;shuns b c;shuns c a;");
        e.due("P16 c behind b", x.shunned(), 1);
        x.road(1);
        e.due("P16 c behind a, b on the road", x.shunned(), 1);
        x.road(0);
        e.due("P16 c alone", x.shunned(), 0);
        x.road(1);
        x.road(2);
        e.due("P16 b alone", x.shunned(), 0);
        x.road(2);
        x.put(2, 0);
        e.due("P16 b behind c", x.shunned(), 1);
    }

    /** Terms: "The one ahead of a HOUSE [..] is no cat": nobody has a cat ahead; a cat that shuns counts. */
    private static void shunnedCats() {
        MangleTown x = Checks.of(CATS + THREE + "shuns a k;shuns a m;shuns m k;shuns k a;shuns m a;");
        e.due("P16 behind cats alone", x.shunned(), 0);
        x.put(2, 0);
        e.due("P16 two cats behind a", x.shunned(), 2);
        x.put(2, 1);
        e.due("P16 one cat behind a", x.shunned(), 1);
        x.put(3, 2);
        e.due("P16 b between", x.shunned(), 0);
    }

    /** Promise 16: 6 at most, of seven. */
    private static void shunnedMost() {
        StringBuilder town = new StringBuilder(Edges.plain(7, 1, 0, 0));
        for (char one = 'b'; one <= 'g'; one++) {
            town.append("shuns ").append(one).append(' ').append((char) (one - 1)).append(';');
        }
        MangleTown x = Checks.of(town.toString());
        e.due("P16 six", x.shunned(), 6);
        x.put(6, 0);
        e.due("P16 five", x.shunned(), 5);
    }

    /** Promise 17: "place NONE: how much; else who; -2: others." */
    private static void bestOthers() {
        for (int place : new int[] {-2, -3, 4, 5, 7}) {
            e.leaves("P17 place " + place, -2, Edges::rich, x -> x.best(place));
        }
        for (int far : Edges.FAR_OFF) {
            e.leaves("P17 place " + far, -2, Edges::rich, x -> x.best(far));
        }
        MangleTown x = Checks.of(Edges.plain(7, 1, 0, 0));
        e.due("P17 place 6 of seven", x.best(6), 6);
        e.due("P17 place 7 of seven", x.best(7), -2);
        MangleTown one = Checks.of(Edges.plain(1, 1, 0, 9));
        best("P17 one", one, 0, 0);
        e.due("P17 below", one.best(-2), -2);
    }

    /** Promise 17: where nothing is told yet: nothing is printed, all places are others. */
    private static void bestNobody() {
        best("P17 nobody", new MangleTown(), 0);
        e.leaves("P17 nobody, place 0", -2, MangleTown::new, x -> x.best(0));
        e.leaves("P17 nobody, how much", 0, MangleTown::new, x -> x.best(-1));
    }

    /** Terms: "(those on the ROAD behind them, by numbers)": where nobody GOES, they alone. */
    private static void bestNobodyGoes() {
        MangleTown x = Checks.of(THREE + ALL_SHUN + "prints 9;");
        x.put(2, 0);
        for (int h = 0; h < 3; h++) {
            x.road(h);
        }
        best("P17 nobody goes", x, 0, 0, 1, 2);
    }

    /** Terms: "of all ORDERS of those that GO (those on the ROAD behind them, by numbers)". */
    private static void bestThoseOnTheRoad() {
        MangleTown x = Checks.of(Edges.plain(7, 4, 9, 1));
        x.road(0);
        x.road(5);
        x.road(2);
        best("P17 three on the road", x, 3, 1, 3, 4, 6, 0, 2, 5);
        x.put(5, 0);
        best("P17 the order is nothing to it", x, 3, 1, 3, 4, 6, 0, 2, 5);
    }

    /** Terms: BEST "of equal ones the first row". */
    private static void bestFirstRow() {
        best("P17 all alike", Checks.of(Edges.plain(7, 4, 9, 1)), 6, 0, 1, 2, 3, 4, 5, 6);
        best("P17 the inkiest last, the others by numbers", Checks.of(Edges.house("z", "plain", 4, 9, 9)
                + Edges.plain(3, 4, 9, 1)), 3, 1, 2, 3, 0);
        best("P17 two inkiest: the first of them last would be no less", Checks.of(Edges.plain(2, 4, 9, 9)
                + Edges.house("z", "plain", 4, 9, 1)), 10, 0, 2, 1);
    }

    /** Terms: BEST "how much": 54 at most, 9 on each but one of seven. */
    private static void bestMost() {
        best("P17 9 on six", Checks.of(Edges.plain(7, 4, 9, 9)), 54, 0, 1, 2, 3, 4, 5, 6);
        best("P17 9 at most each", Checks.of(Edges.plain(7, 4, 9, 9) + "prints 10;"), 54, 0, 1, 2, 3, 4, 5, 6);
        best("P17 nothing", Checks.of(Edges.plain(7, 4, 9, 9) + "prints 0-9;"), 0, 0, 1, 2, 3, 4, 5, 6);
    }

    /** Terms: "nothing on a cat", which is ahead of nobody: BEST of cats alone, and of cats among others. */
    private static void bestCats() {
        best("P17 cats alone", Checks.of(CATS), 0, 0, 1);
        best("P17 cats anywhere", Checks.of(CATS + Edges.plain(2, 4, 9, 3)), 3, 0, 1, 2, 3);
        best("P17 one and a cat", Checks.of(Edges.plain(1, 4, 9, 3) + CATS), 0, 0, 1, 2);
    }

    /** Terms: BEST "none SHUNNED if that can be": though more is printed. */
    private static void bestNoneShunned() {
        String two = Edges.house("a", "plain", 4, 9, 1) + Edges.house("b", "plain", 4, 9, 9);
        best("P17 the least", Checks.of(two), 1, 0, 1);
        best("P17 b won't go behind a", Checks.of(two + "shuns b a;"), 9, 1, 0);
        best("P17 a won't go behind b", Checks.of(two + "shuns a b;"), 1, 0, 1);
        best("P17 a cat won't go behind either", Checks.of(two + CATS + "shuns k a;shuns k b;"), 1, 2, 0, 1, 3);
    }

    /** Terms: BEST "(else all ORDERS)": one is SHUNNED whatever they do, so the least of all. */
    private static void bestElseAll() {
        String two = Edges.house("a", "plain", 4, 9, 1) + Edges.house("b", "plain", 4, 9, 9);
        best("P17 both shun", Checks.of(two + "shuns a b;shuns b a;"), 1, 0, 1);
        MangleTown x = Checks.of(Edges.house("z", "plain", 4, 9, 9) + THREE + ALL_SHUN);
        best("P17 all rows", x, 3, 1, 2, 3, 0);
        x.road(1);
        // b and c shun one another, but z can go between.
        best("P17 with one less none is shunned", x, 10, 2, 0, 3, 1);
    }

    /** Terms: BEST "as all is now, [..] (each by its own wet now)": nothing of a run is in it. */
    private static void bestAsAllIsNow() {
        MangleTown x = Checks.of(Edges.house("s", "sharp", 4, 3, 0) + Edges.house("b", "stout", 9, 5, 0)
                + "gap 4;prints damp+between-4;rains 9;");
        best("P17 3 on s behind b", x, 3, 1, 0);
        x.run();
        // The gap is 5; s has 11 wet of 3 (half is pressed out), b 9 of 5 (all is).
        best("P17 9 at most on either", x, 9, 0, 1);
    }

    /** Promise 18: "AROUND, as bits": 0 where nobody is told, nobody shuns, nobody need go. */
    private static void aroundNobody() {
        e.leaves("P18 nobody", 0, MangleTown::new, x -> x.around());
        e.due("P18 nobody shuns", Checks.of(Edges.plain(7, 1, 0, 0)).around(), 0);
        e.due("P18 one", Checks.of(Edges.plain(1, 1, 0, 0)).around(), 0);
        e.due("P18 a row can be", Checks.of(THREE + "shuns a b;shuns b c;shuns c a;").around(), 0);
    }

    /** Terms: AROUND "the fewest that GO to be put on the ROAD, too": 0, 1, 2 .. 6 of them. */
    private static void aroundFewest() {
        for (int many = 1; many <= 7; many++) {
            StringBuilder town = new StringBuilder(Edges.plain(7, 1, 0, 0).replace(" thick", "\nthick"));
            for (int one = 0; one < many; one++) {
                for (int other = 0; other < many; other++) {
                    town.append(one == other ? "" : "shuns " + (char) ('a' + one) + " " + (char) ('a' + other) + ";");
                }
            }
            // Those who shun one another need one of the others between each two: 7 - many of them.
            int fewest = Math.max(0, many - (7 - many) - 1);
            e.due("P18 " + many + " shun one another", Checks.of(town.toString()).around(), (1 << fewest) - 1);
        }
    }

    /** Terms: AROUND "of equal ones the least set (bits)". */
    private static void aroundLeastSet() {
        e.due("P18 either of two", Checks.of(Edges.plain(2, 1, 0, 0) + "shuns a b;shuns b a;").around(), 1);
        e.due("P18 two of three", Checks.of(THREE + ALL_SHUN).around(), 3);
        // c and all others shun one another: one of the two pairs, or c alone.
        e.due("P18 the one that is fewest", Checks.of(THREE + "shuns a c;shuns c a;shuns b c;shuns c b;").around(), 4);
    }

    /** Terms: AROUND "the fewest that GO [..], too": those on the ROAD are none of them. */
    private static void aroundThoseThatGo() {
        MangleTown x = Checks.of(THREE + ALL_SHUN);
        for (int h = 0; h < 3; h++) {
            e.due("P18 all go", x.around(), 3);
            x.road(h);
            e.due("P18 one is on the road", x.around(), h == 0 ? 2 : 1);
            x.road(h);
        }
        x.road(0);
        x.road(2);
        e.due("P18 two are on the road", x.around(), 0);
        x.road(1);
        e.due("P18 all are on the road", x.around(), 0);
    }

    /** Terms: "The one ahead [..] is no cat": a cat parts nobody, none goes behind one, but it shuns, too. */
    private static void aroundCats() {
        String two = Edges.plain(2, 1, 0, 0) + "shuns a b;shuns b a;";
        e.due("P18 cats part nobody", Checks.of(two + CATS).around(), 1);
        String three = CATS + Edges.plain(1, 1, 0, 0);
        e.due("P18 none goes behind a cat", Checks.of(three + "shuns a k;shuns a m;").around(), 0);
        e.due("P18 cats go first", Checks.of(three + "shuns k a;shuns m a;").around(), 0);
        e.due("P18 cats that shun cats", Checks.of(CATS + "shuns k m;shuns m k;").around(), 0);
    }

    /** Promises 17, 18: by the TOWN as it is now: nothing of what was asked of another one. */
    private static void aroundOfAnother() {
        MangleTown x = Checks.of(THREE + "prints 0;");
        e.due("P18 nobody shuns", x.around(), 0);
        best("P17 nothing printed", x, 0, 0, 1, 2);
        Checks.town(x, THREE + ALL_SHUN + "prints 9;");
        e.due("P18 all shun", x.around(), 3);
        best("P17 9 on two", x, 18, 0, 1, 2);
        Checks.town(x, Edges.house("a", "plain", 4, 9, 1) + Edges.house("b", "plain", 4, 9, 9) + "shuns b a;");
        e.due("P18 b goes first", x.around(), 0);
        best("P17 b goes first", x, 9, 1, 0);
        Checks.town(x, THREE);
        e.due("P18 nobody shuns", x.around(), 0);
        best("P17 1 on two", x, 2, 0, 1, 2);
    }

    /** Promise 19: "TILL; NONE: others": "so much (1 to 693)". */
    private static void tillOthers() {
        MangleTown full = Checks.of(Edges.plain(7, 1, 99, 0));
        e.due("P19 1", full.till(1), 0);
        e.due("P19 693", full.till(693), 0);
        for (int wet : new int[] {0, -1, 694}) {
            e.leaves("P19 " + wet, -1, Edges::rich, x -> x.till(wet));
            e.leaves("P19 full " + wet, -1, () -> Checks.of(Edges.plain(7, 1, 99, 0)), x -> x.till(wet));
        }
        for (int far : Edges.FAR_OFF) {
            e.leaves("P19 " + far, -1, Edges::rich, x -> x.till(far));
        }
    }

    /** Terms: "TILL: in how many RUNS (0 to 99)": 0, if it is so now. */
    private static void tillNow() {
        MangleTown x = Checks.of(Edges.plain(1, 1, 40, 0) + Edges.house("z", "plain", 1, 2, 0) + "presses 0;rains 1;");
        e.due("P19 42", x.till(42), 0);
        e.due("P19 43", x.till(43), 1);
        e.due("P19 44", x.till(44), 1);
        e.due("P19 45", x.till(45), 2);
    }

    /** Terms: TILL "so much [..], or more". */
    private static void tillOrMore() {
        MangleTown x = Checks.of(Edges.plain(2, 1, 0, 0) + "presses 0;rains 9;");
        for (int wet = 1; wet <= 36; wet++) {
            e.due("P19 " + wet, x.till(wet), (wet + 17) / 18);
        }
        // Once it is so, whatever comes later: 10, 5, 3, 11, 6, 3, 11 and so on.
        MangleTown once = Checks.of(Edges.plain(1, 1, 2, 0) + "rains 9 0 0;");
        e.due("P19 10 by the first run", once.till(10), 1);
        e.due("P19 11 by the fourth", once.till(11), 4);
        e.due("P19 never 12", once.till(12), -1);
    }

    /** Promise 19: "NONE: [..] not within 99". */
    private static void tillNinetyNine() {
        String each = Edges.plain(1, 1, 0, 0) + "presses 0;rains 1;";
        MangleTown x = Checks.of(each);
        e.due("P19 98", x.till(98), 98);
        e.due("P19 99 by 99 runs", x.till(99), 99);
        e.leaves("P19 never 100", -1, () -> Checks.of(each), y -> y.till(100));
        // 11 of 12 fortnights bring 1: 91 by 99 runs, 92 by 100.
        MangleTown slow = Checks.of(Edges.plain(1, 1, 0, 0) + "presses 0;rains 1 1 1 1 1 1 1 1 1 1 1 0;");
        e.due("P19 91 by 99 runs", slow.till(91), 99);
        e.due("P19 92 by 100 runs", slow.till(92), -1);
        slow.run();
        e.due("P19 92 by 99 more", slow.till(92), 99);
    }

    /** Terms: TILL "(1 to 693)": all that seven can hold, by 99 runs. */
    private static void tillMost() {
        MangleTown x = Checks.of(Edges.plain(7, 1, 0, 0) + "presses 0;rains 1;");
        e.due("P19 692", x.till(692), 99);
        e.due("P19 693", x.till(693), 99);
        MangleTown y = Checks.of(Edges.plain(6, 1, 99, 0) + "presses 0;rains 9;");
        e.due("P19 594", y.till(594), 0);
        e.due("P19 six never hold 595", y.till(595), -1);
        e.due("P19 nobody", new MangleTown().till(1), -1);
        e.due("P19 no rain", Checks.of(Edges.plain(7, 1, 0, 0) + "rains 0;").till(1), -1);
    }

    /** Terms: TILL "if nothing else is done": who is on the ROAD stays there, from the fortnight it is. */
    private static void tillNothingElse() {
        MangleTown x = Checks.of(Edges.plain(2, 9, 10, 0) + "rains 5 0;");
        e.due("P19 all is pressed out each time", x.till(21), -1);
        x.road(0);
        // 15 and 5, 15 and 0, 20 and 5.
        e.due("P19 one on the road: 20", x.till(20), 0);
        e.due("P19 one on the road: 25", x.till(25), 3);
        x.run();
        e.due("P19 now 20, in the second fortnight", x.till(20), 0);
        e.due("P19 25", x.till(25), 2);
        e.leaves("P19 nothing is done", 3, () -> {
            MangleTown y = Checks.of(Edges.plain(2, 9, 10, 0) + "rains 5 0;");
            y.road(0);
            return y;
        }, y -> y.till(25));
    }

    /** Promise 20: "DRY; NONE: others": "so much (0 to 99)". */
    private static void dryOthers() {
        MangleTown x = Checks.of(Edges.plain(2, 9, 99, 0) + "rains 0;");
        e.due("P20 0", x.dry(0), 1);
        e.due("P20 98", x.dry(98), 1);
        e.due("P20 99", x.dry(99), 0);
        for (int wet : new int[] {-1, 100}) {
            e.leaves("P20 " + wet, -1, Edges::rich, y -> y.dry(wet));
        }
        for (int far : Edges.FAR_OFF) {
            e.leaves("P20 " + far, -1, Edges::rich, y -> y.dry(far));
        }
    }

    /** Terms: "DRY: the fewest RUNS (0 to 99) by which some HOUSE [..] has no more wet than so much". */
    private static void dryNow() {
        MangleTown x = Checks.of(Edges.plain(1, 9, 60, 0) + Edges.house("z", "plain", 9, 40, 0) + "presses 1;rains 0;");
        e.due("P20 41", x.dry(41), 0);
        e.due("P20 40", x.dry(40), 0);
        e.due("P20 39", x.dry(39), 1);
        e.due("P20 38", x.dry(38), 2);
        e.due("P20 0", x.dry(0), 40);
        e.due("P20 dry already", Checks.of(Edges.plain(1, 9, 0, 0)).dry(0), 0);
    }

    /** Promise 20: "NONE: [..] not within 99". */
    private static void dryNinetyNine() {
        String slow = Edges.plain(1, 1, 99, 0) + "presses 1;rains 0 0 0 0 0 0 0 0 0 0 0 1;";
        MangleTown x = Checks.of(slow);
        e.due("P20 8 by 99 runs", x.dry(8), 99);
        e.leaves("P20 7 by 100 runs", -1, () -> Checks.of(slow), y -> y.dry(7));
        x.run();
        e.due("P20 7 by 99 more", x.dry(7), 99);
        MangleTown plain = Checks.of(Edges.plain(1, 1, 99, 0) + "presses 1;rains 0;");
        e.due("P20 0 by 99 runs", plain.dry(0), 99);
        e.due("P20 never", Checks.of(Edges.plain(1, 1, 99, 0) + "presses 0;").dry(98), -1);
    }

    /** Terms: DRY "some HOUSE that GOES": not one on the ROAD; a cat, too. */
    private static void dryThatGoes() {
        MangleTown x = Checks.of(Edges.house("k", "cat", 9, 3, 0) + Edges.plain(1, 9, 60, 0) + "presses 1;rains 0;");
        e.due("P20 the cat", x.dry(3), 0);
        x.road(0);
        e.due("P20 the other one", x.dry(3), 57);
        x.road(1);
        e.due("P20 nobody goes", x.dry(99), -1);
        x.road(0);
        e.due("P20 the cat alone", x.dry(0), 3);
    }

    /** Promise 20: where nobody is told: NONE for all. */
    private static void dryNobody() {
        e.leaves("P20 nobody, 0", -1, MangleTown::new, x -> x.dry(0));
        e.leaves("P20 nobody, 99", -1, MangleTown::new, x -> x.dry(99));
    }
}
