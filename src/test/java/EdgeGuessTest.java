import java.util.Arrays;

/** Boundaries of promises 21 to 27: what is heard and seen, what to ask for. One test for each sentence. */
public final class EdgeGuessTest {
    private static final Edges e = new Edges();

    public static void main(String[] args) {
        hearOthers();
        hearLater();
        setsOthers();
        setsNobody();
        setsWithoutHeard();
        setsNone();
        setsEmptyOne();
        setsMost();
        setsThatGo();
        setsAsItIsNow();
        setsNoneAhead();
        lookNobody();
        lookNoneParts();
        lookOfHalves();
        lookLeast();
        lookFirst();
        lookThatGo();
        seeOthers();
        seeTheSame();
        seeEight();
        seeAgain();
        ordersNobody();
        ordersMost();
        ordersNone();
        ordersOfAllHouses();
        ordersAnywhere();
        firstOthers();
        firstNoOrder();
        firstRow();
        askNobody();
        askNoneParts();
        askLesserFirst();
        askLeast();
        askFirst();
        e.end();
    }

    /** Houses that give just these, all that they are wet. */
    private static String gives(int... wets) {
        StringBuilder town = new StringBuilder("presses damp;");
        for (int i = 0; i < wets.length; i++) {
            town.append(Edges.house("" + (char) ('a' + i), "plain", 1, wets[i], 0));
        }
        return town.toString();
    }

    private static MangleTown giving(int... wets) {
        return Checks.of(gives(wets));
    }

    private static MangleTown heard(int pints, int... wets) {
        MangleTown x = giving(wets);
        e.due("P21 heard " + pints, x.hear(pints), true);
        return x;
    }

    private static MangleTown seen(int houses, int... pairs) {
        MangleTown x = Checks.of(Edges.plain(houses, 1, 0, 0));
        for (int i = 0; i < pairs.length; i += 2) {
            e.due("P24 seen", x.see(pairs[i], pairs[i + 1]), true);
        }
        return x;
    }

    private static void sets(String call, MangleTown x, int many, int inAll, int inSome) {
        e.due(call + ", how many", x.sets(0), many);
        e.due(call + ", in all", x.sets(1), inAll);
        e.due(call + ", in some", x.sets(2), inSome);
    }

    /** Promise 21: "HEARD: true; false: others": "so many PINTS (0 to 693)". */
    private static void hearOthers() {
        for (int pints : new int[] {0, 1, 692, 693}) {
            MangleTown x = giving(4, 5);
            e.due("P33 nothing heard", x.count(12), -1);
            e.due("P21 " + pints, x.hear(pints), true);
            e.due("P33 " + pints, x.count(12), pints);
            e.due("P33 nothing to undo", x.count(13), 0);
        }
        for (int pints : new int[] {-1, -2, 694}) {
            e.leaves("P21 " + pints, 0, Edges::richWithTape, x -> Edges.bit(x.hear(pints)));
            e.leaves("P21 nothing heard yet, " + pints, 0, () -> giving(4, 5), x -> Edges.bit(x.hear(pints)));
        }
        for (int far : Edges.FAR_OFF) {
            e.leaves("P21 " + far, 0, Edges::rich, x -> Edges.bit(x.hear(far)));
        }
        MangleTown nobody = new MangleTown();
        e.due("P21 of nobody", nobody.hear(693), true);
        sets("P22 of nobody", nobody, 0, -1, -1);
        e.due("P21 0 of nobody", nobody.hear(0), true);
        sets("P22 0 of nobody", nobody, 1, 0, 0);
    }

    /** Terms: "a later one stands in place of the elder". */
    private static void hearLater() {
        MangleTown x = heard(4, 4, 5);
        sets("P22 4", x, 1, 1, 1);
        x.hear(5);
        e.due("P33 the later one", x.count(12), 5);
        sets("P22 5", x, 1, 2, 2);
        x.hear(694);
        sets("P22 5 still", x, 1, 2, 2);
        x.hear(0);
        sets("P22 0", x, 1, 0, 0);
    }

    /** Promise 22: "what 0: how many, 1: in all, 2: in some (bits); NONE: others". */
    private static void setsOthers() {
        for (int what : new int[] {-1, -2, 3, 4}) {
            e.leaves("P22 what " + what, -1, Edges::rich, x -> x.sets(what));
            e.leaves("P22 nothing heard, what " + what, -1, () -> giving(4, 5), x -> x.sets(what));
            e.leaves("P22 nobody, what " + what, -1, MangleTown::new, x -> x.sets(what));
        }
        for (int far : Edges.FAR_OFF) {
            e.leaves("P22 what " + far, -1, Edges::rich, x -> x.sets(far));
        }
    }

    /** Promise 22, where nobody is told or GOES: the empty set alone. */
    private static void setsNobody() {
        sets("P22 nobody", new MangleTown(), 1, 0, 0);
        MangleTown x = giving(4, 5);
        x.road(0);
        x.road(1);
        sets("P22 nobody goes", x, 1, 0, 0);
        x.hear(0);
        sets("P22 nobody goes, 0 heard", x, 1, 0, 0);
        x.hear(4);
        sets("P22 nobody goes, 4 heard", x, 0, -1, -1);
    }

    /** Terms: "SETS by which it is so (all sets without HEARD)". */
    private static void setsWithoutHeard() {
        int[] wets = {0, 99, 1, 2, 3, 4, 5};
        for (int many = 0; many <= 7; many++) {
            sets("P22 all of " + many, giving(Arrays.copyOf(wets, many)), 1 << many, 0, (1 << many) - 1);
        }
    }

    /** Promise 22: "NONE: [..] no set (but 0)". */
    private static void setsNone() {
        sets("P22 10 of 4 and 5", heard(10, 4, 5), 0, -1, -1);
        sets("P22 9 of 4 and 5", heard(9, 4, 5), 1, 3, 3);
        sets("P22 3 of 4 and 5", heard(3, 4, 5), 0, -1, -1);
        sets("P22 692 of all", heard(692, 99, 99, 99, 99, 99, 99, 99), 0, -1, -1);
    }

    /** Terms: "some of those that GO": nobody at all is such a set, too. */
    private static void setsEmptyOne() {
        sets("P22 0 of 4 and 5", heard(0, 4, 5), 1, 0, 0);
        sets("P22 0 of 0 and 5", heard(0, 0, 5), 2, 0, 1);
        sets("P22 5 of 0 and 5", heard(5, 0, 5), 2, 2, 3);
    }

    /** Terms: "(0 to 693)": seven that give 99 each; seven that give nothing. */
    private static void setsMost() {
        sets("P22 693", heard(693, 99, 99, 99, 99, 99, 99, 99), 1, 127, 127);
        sets("P22 594", heard(594, 99, 99, 99, 99, 99, 99, 99), 7, 0, 127);
        sets("P22 297", heard(297, 99, 99, 99, 99, 99, 99, 99), 35, 0, 127);
        sets("P22 0 of dry ones", heard(0, 0, 0, 0, 0, 0, 0, 0), 128, 0, 127);
        sets("P22 1 of dry ones", heard(1, 0, 0, 0, 0, 0, 0, 0), 0, -1, -1);
    }

    /** Terms: "some of those that GO": none on the ROAD. */
    private static void setsThatGo() {
        MangleTown x = heard(9, 4, 5, 9);
        sets("P22 all go", x, 2, 0, 7);
        x.road(0);
        sets("P22 without a", x, 1, 4, 4);
        x.road(2);
        sets("P22 b alone", x, 0, -1, -1);
        x.road(0);
        sets("P22 a and b", x, 1, 3, 3);
        MangleTown all = giving(4, 5, 9);
        all.road(1);
        sets("P22 nothing heard, b on the road", all, 4, 0, 5);
    }

    /** Terms: "(each as it is now": by its wet, thickness, the gap now. */
    private static void setsAsItIsNow() {
        MangleTown x = Checks.of(Edges.FOUR + "rains 0;");
        x.hear(62);
        sets("P22 40+14+8", x, 1, 7, 7);
        x.run();
        sets("P22 of 0, 7, 4, 8", x, 0, -1, -1);
        x.hear(12);
        sets("P22 4+8, with hall or without", x, 2, 12, 13);
        x.undo();
        x.hear(62);
        sets("P22 40+14+8 again", x, 1, 7, 7);
    }

    /** Terms: "were alone PRESSED now ([..] none ahead of it)": a sharp one ahead widens no gap for them. */
    private static void setsNoneAhead() {
        MangleTown x = Checks.of(Edges.house("s", "sharp", 1, 2, 0) + Edges.house("a", "plain", 6, 40, 0));
        x.hear(41);
        sets("P22 1+40, a by a gap of 5", x, 1, 3, 3);
        e.due("P12 but in a run 1+20", x.run(), 21);
    }

    /** Promise 23: "NONE: none parts them": where nobody is told or GOES. */
    private static void lookNobody() {
        e.leaves("P23 nobody", -1, MangleTown::new, x -> x.look());
        MangleTown x = giving(4, 5);
        x.road(0);
        x.road(1);
        e.due("P23 nobody goes", x.look(), -1);
    }

    /** Promise 23: "NONE: none parts them": one set, or none at all. */
    private static void lookNoneParts() {
        e.due("P23 one set", heard(9, 4, 5).look(), -1);
        e.due("P23 the empty set", heard(0, 4, 5).look(), -1);
        e.due("P23 no set", heard(1, 4, 5).look(), -1);
        e.due("P23 two sets", heard(4, 4, 4).look(), 0);
        e.leaves("P23 rich", Edges.rich().look(), Edges::rich, x -> x.look());
    }

    /** Terms: LOOK "in more of those SETS, or in fewer, than all of them": all sets, each in half. */
    private static void lookOfHalves() {
        for (int many = 1; many <= 7; many++) {
            MangleTown x = Checks.of(Edges.plain(many, 1, 9, 0));
            e.due("P23 the first of " + many, x.look(), 0);
        }
        // A dry one is in one of two sets, the other one in both.
        e.due("P23 in all is no parting", heard(5, 5, 0).look(), 1);
        e.due("P23 in none is no parting", heard(0, 5, 0).look(), 1);
        e.due("P23 the last of seven", heard(0, 1, 1, 1, 1, 1, 1, 0).look(), 6);
    }

    /** Terms: LOOK "for which the greater number is the least". */
    private static void lookLeast() {
        // 9+1, and 5+5 three times: 9 is in one of four, each 5 in two.
        e.due("P23 2 of 4 ahead of 3 of 4", heard(10, 9, 1, 5, 5, 5).look(), 2);
        // 1, 1, 1 or 3: the greater is 3 of 4 for each.
        e.due("P23 3 of 4 each", heard(1, 3, 1, 1, 1).look(), 1);
        // 8; 5+3; 5+2+1: in fewer (8: 1 of 3) and in more (5: 2 of 3) are the same.
        e.due("P23 in fewer or in more", heard(8, 8, 5, 3, 2, 1).look(), 0);
    }

    /** Terms: LOOK "of equal ones the first". */
    private static void lookFirst() {
        e.due("P23 4 or 4", heard(4, 4, 4).look(), 0);
        e.due("P23 9, then 4 or 4", heard(13, 9, 4, 4).look(), 1);
        e.due("P23 in more is first", heard(8, 5, 8, 3, 2, 1).look(), 0);
    }

    /** Terms: "some of those that GO": LOOK names none on the ROAD. */
    private static void lookThatGo() {
        MangleTown x = giving(4, 5, 9);
        x.road(0);
        e.due("P23 the first that goes", x.look(), 1);
        x.road(1);
        e.due("P23 the last that goes", x.look(), 2);
    }

    /** Promise 24: "SEEN: true; false: others": numbers that are no HOUSE's. */
    private static void seeOthers() {
        for (int wrong : new int[] {-1, 4, 7, 8, 32}) {
            e.leaves("P24 " + wrong + ", 0", 0, Edges::richWithTape, x -> Edges.bit(x.see(wrong, 0)));
            e.leaves("P24 0, " + wrong, 0, Edges::richWithTape, x -> Edges.bit(x.see(0, wrong)));
            e.leaves("P24 both " + wrong, 0, Edges::richWithTape, x -> Edges.bit(x.see(wrong, wrong)));
        }
        for (int far : Edges.FAR_OFF) {
            e.leaves("P24 " + far + ", 0", 0, Edges::rich, x -> Edges.bit(x.see(far, 0)));
            e.leaves("P24 0, " + far, 0, Edges::rich, x -> Edges.bit(x.see(0, far)));
        }
        e.due("P24 0, 3", Edges.rich().see(0, 3), true);
        e.due("P24 3, 0", Edges.rich().see(3, 0), true);
        e.due("P24 0, 6 of seven", seen(7).see(0, 6), true);
        e.due("P24 6, 0 of seven", seen(7).see(6, 0), true);
        e.due("P24 0, 7 of seven", seen(7).see(0, 7), false);
        e.due("P24 7, 0 of seven", seen(7).see(7, 0), false);
        e.due("P24 of one", seen(1).see(0, 1), false);
    }

    /** Promise 24: "false: [..] the same". */
    private static void seeTheSame() {
        for (int h = 0; h < 4; h++) {
            int who = h;
            e.leaves("P24 the same " + h, 0, Edges::richWithTape, x -> Edges.bit(x.see(who, who)));
        }
        e.leaves("P24 the same of one", 0, () -> seen(1), x -> Edges.bit(x.see(0, 0)));
    }

    /** Promise 24: "false: [..] 8 are SEEN"; Terms: "8 at most". */
    private static void seeEight() {
        int[] pairs = {0, 1, 1, 2, 2, 3, 3, 4, 4, 5, 0, 2, 0, 3, 0, 4};
        MangleTown x = seen(7);
        for (int i = 0; i < 8; i++) {
            e.due("P33 seen so far", x.count(11), i);
            e.due("P24 the " + (i + 1) + "th", x.see(pairs[2 * i], pairs[2 * i + 1]), true);
        }
        e.due("P33 eight", x.count(11), 8);
        e.due("P25 6 in a chain, g anywhere", x.orders(), 7);
        e.leaves("P24 a ninth", 0, () -> seen(7, pairs), y -> Edges.bit(y.see(5, 6)));
        e.leaves("P24 a ninth that is seen already", 0, () -> seen(7, pairs), y -> Edges.bit(y.see(0, 1)));
        e.due("P24 a ninth", x.see(6, 0), false);
        e.due("P25 as ahead of it", x.orders(), 7);
        e.due("P26 as ahead of it", x.first(6), 6);
        e.due("P33 nothing to undo", x.count(13), 0);
    }

    /** Promise 24: "false: others, the same, 8 are SEEN": what is SEEN already is none of these, and is one more. */
    private static void seeAgain() {
        MangleTown x = seen(2, 0, 1, 0, 1);
        e.due("P33 two", x.count(11), 2);
        e.due("P25 as by one", x.orders(), 1);
        e.due("P24 the other way round", x.see(1, 0), true);
        e.due("P33 three", x.count(11), 3);
        e.due("P25 none can be", x.orders(), 0);
    }

    /** Promise 25: "ORDERS", where nobody is told: the empty row. */
    private static void ordersNobody() {
        e.leaves("P25 nobody", 1, MangleTown::new, x -> x.orders());
        e.due("P25 one house", seen(1).orders(), 1);
    }

    /** Terms: "ORDERS: how many there can be by all that is SEEN": all where nothing is. */
    private static void ordersMost() {
        int all = 1;
        for (int many = 1; many <= 7; many++) {
            all *= many;
            e.due("P25 of " + many, seen(many).orders(), all);
        }
        e.due("P25 half of 5040", seen(7, 6, 0).orders(), 2520);
        e.due("P25 one", seen(7, 6, 5, 5, 4, 4, 3, 3, 2, 2, 1, 1, 0).orders(), 1);
        e.due("P25 two", seen(7, 6, 5, 5, 4, 4, 3, 3, 2, 2, 1, 2, 0).orders(), 2);
    }

    /** Promise 25: 0 where what is SEEN can't be. */
    private static void ordersNone() {
        e.due("P25 two ways", seen(7, 0, 6, 6, 0).orders(), 0);
        e.due("P25 round three", seen(7, 0, 1, 1, 2, 2, 0).orders(), 0);
        e.due("P25 round seven", seen(7, 0, 1, 1, 2, 2, 3, 3, 4, 4, 5, 5, 6, 6, 0).orders(), 0);
    }

    /** Terms: "in a RUN of all HOUSES in an unknown ORDER (cats count here like others)". */
    private static void ordersOfAllHouses() {
        MangleTown x = Checks.of(Edges.FOUR);
        e.due("P25 with a cat", x.orders(), 24);
        for (int h = 0; h < 4; h++) {
            x.road(h);
            x.put(h, 0);
            e.due("P25 the road, the order are nothing to it", x.orders(), 24);
        }
        x.see(2, 0);
        e.due("P25 the cat ahead of hall", x.orders(), 12);
        e.due("P26 inn, the cat, hall, shop", x.first(2), 0);
        e.due("P27 inn and shop: 6 of 12", x.ask(), 11);
    }

    /** Terms: "a HOUSE came ahead (anywhere) of another one": not right ahead of it alone. */
    private static void ordersAnywhere() {
        e.due("P25 0 ahead of 2: 012, 021, 102", seen(3, 0, 2).orders(), 3);
        e.due("P26 012", seen(3, 0, 2).first(1), 1);
    }

    /** Promise 26: "FIRST: the HOUSE at a place; NONE: others". */
    private static void firstOthers() {
        for (int place : new int[] {-1, -2, 4, 7}) {
            e.leaves("P26 place " + place, -1, Edges::rich, x -> x.first(place));
        }
        for (int far : Edges.FAR_OFF) {
            e.leaves("P26 place " + far, -1, Edges::rich, x -> x.first(far));
        }
        e.due("P26 place 0 of seven", seen(7).first(0), 0);
        e.due("P26 place 6 of seven", seen(7).first(6), 6);
        e.due("P26 place 7 of seven", seen(7).first(7), -1);
        e.due("P26 place 0 of one", seen(1).first(0), 0);
        e.due("P26 place 1 of one", seen(1).first(1), -1);
        e.leaves("P26 nobody", -1, MangleTown::new, x -> x.first(0));
    }

    /** Promise 26: "NONE: [..] no ORDER". */
    private static void firstNoOrder() {
        MangleTown x = seen(7, 5, 6, 6, 5);
        for (int place = 0; place < 7; place++) {
            e.due("P26 no order, place " + place, x.first(place), -1);
        }
    }

    private static void row(String call, MangleTown x, int... want) {
        for (int place = 0; place < want.length; place++) {
            e.due(call + ", place " + place, x.first(place), want[place]);
        }
    }

    /** Terms: "FIRST: the first such row". */
    private static void firstRow() {
        row("P26 nothing seen", seen(7), 0, 1, 2, 3, 4, 5, 6);
        row("P26 6 ahead of 0", seen(7, 6, 0), 1, 2, 3, 4, 5, 6, 0);
        row("P26 6 ahead of 0, 0 ahead of 1", seen(7, 6, 0, 0, 1), 2, 3, 4, 5, 6, 0, 1);
        row("P26 backwards", seen(7, 6, 5, 5, 4, 4, 3, 3, 2, 2, 1, 1, 0), 6, 5, 4, 3, 2, 1, 0);
        row("P26 two ahead of 1", seen(4, 2, 1, 3, 1), 0, 2, 3, 1);
    }

    /** Promise 27: "NONE: none parts them": nobody, and one alone. */
    private static void askNobody() {
        e.leaves("P27 nobody", -1, MangleTown::new, x -> x.ask());
        e.due("P27 one", seen(1).ask(), -1);
        e.due("P27 two", seen(2).ask(), 1);
    }

    /** Promise 27: "NONE: none parts them": one ORDER, or none. */
    private static void askNoneParts() {
        e.due("P27 one order of two", seen(2, 1, 0).ask(), -1);
        e.due("P27 one order of seven", seen(7, 6, 5, 5, 4, 4, 3, 3, 2, 2, 1, 1, 0).ask(), -1);
        e.due("P27 no order", seen(7, 0, 1, 1, 0).ask(), -1);
        e.leaves("P27 no order", -1, () -> seen(3, 0, 1, 1, 0), x -> x.ask());
    }

    /** Promise 27: "as the lesser one * 8 + the other one"; 1 is the least, 46 the greatest. */
    private static void askLesserFirst() {
        e.due("P27 0 and 1", seen(7).ask(), 1);
        e.due("P27 5 and 6", seen(7, 0, 1, 1, 2, 2, 3, 3, 4, 4, 5, 4, 6).ask(), 46);
        e.due("P27 0 and 6", seen(7, 1, 2, 2, 3, 3, 4, 4, 5, 5, 0, 5, 6).ask(), 6);
    }

    /** Terms: ASK "for which the greater number of these [..] is the least, if it is less than all". */
    private static void askLeast() {
        // 012, 021, 201 (0 ahead of 1): 0 and 2: 2 of 3, 1 and 2: 2 of 3.
        e.due("P27 2 of 3", seen(3, 0, 1).ask(), 2);
        // 0 ahead of 1: 0 and 2: 8 of 12; 2 and 3: 6 of 12.
        e.due("P27 6 of 12", seen(4, 0, 1).ask(), 19);
        // 0, 1, 2 in a row, 3 anywhere: 4 rows; 3 and 1 part them in halves.
        e.due("P27 2 of 4", seen(4, 0, 1, 1, 2).ask(), 11);
        // 1, 2, 3 in a row, 0 anywhere: 0 and 2 part them in halves.
        e.due("P27 2 of 4, by what the other one is behind already", seen(4, 1, 2, 2, 3).ask(), 2);
    }

    /** Terms: ASK "of equal ones the first". */
    private static void askFirst() {
        e.due("P27 all alike", seen(4).ask(), 1);
        // 0 ahead of 1, 2 ahead of 3: 6 rows; 0 and 2, 1 and 3: 3 of 6 each.
        e.due("P27 0 and 2", seen(4, 0, 1, 2, 3).ask(), 2);
    }
}
