import java.util.ArrayList;
import java.util.List;

/** Boundaries of promises 5 to 11: houses, the order, who is ahead, put, road. One test for each sentence. */
public final class EdgeHandTest {
    private static final Edges e = new Edges();
    private static final String CATS = Edges.house("k", "cat", 3, 9, 5) + Edges.house("m", "cat", 3, 9, 5);

    public static void main(String[] args) {
        houseOthers();
        houseWhatOthers();
        houseKinds();
        housePrinted();
        houseOnTheRoad();
        housePlace();
        orderOthers();
        orderAllHouses();
        aheadOthers();
        aheadOnTheRoad();
        aheadNone();
        aheadNoCat();
        aheadTheLast();
        pressedOthers();
        pressedWhetherItGoes();
        blotOthers();
        blotTheSame();
        blotOfACat();
        blotOnACat();
        blotWhetherTheyGo();
        putOthers();
        putPlaces();
        putRow();
        putWhereItIs();
        roadOthers();
        roadOrNoMore();
        roadOfAll();
        e.end();
    }

    private static MangleTown four() {
        return Checks.of(Edges.FOUR);
    }

    private static MangleTown seven() {
        return Checks.of(Edges.plain(7, 4, 50, 3));
    }

    private static MangleTown one() {
        return Checks.of(Edges.plain(1, 4, 50, 3));
    }

    private static void row(String call, MangleTown x, int... want) {
        for (int place = 0; place < want.length; place++) {
            e.due(call + ", place " + place, x.order(place), want[place]);
            e.due(call + ", place of " + want[place], x.house(want[place], 6), place);
        }
    }

    /** Promise 5: "Of a HOUSE, [..]; NONE: others": numbers that are no HOUSE's. */
    private static void houseOthers() {
        for (int what = 0; what <= 6; what++) {
            int asked = what;
            e.due("P5 house 0, " + what, four().house(0, what) >= 0, true);
            e.due("P5 house 3, " + what, four().house(3, what) >= 0, true);
            e.leaves("P5 house -1, " + what, -1, Edges::rich, x -> x.house(-1, asked));
            e.leaves("P5 house 4, " + what, -1, Edges::rich, x -> x.house(4, asked));
            for (int far : Edges.FAR_OFF) {
                e.due("P5 house " + far + ", " + what, Edges.rich().house(far, what), -1);
            }
            e.due("P5 house 6 of seven", seven().house(6, what) >= 0, true);
            e.due("P5 house 7 of seven", seven().house(7, what), -1);
            e.due("P5 house 0 of one", one().house(0, what) >= 0, true);
            e.due("P5 house 1 of one", one().house(1, what), -1);
        }
    }

    /** Promise 5: "what 0: KIND [..] 6: its place [..]; NONE: others": another what. */
    private static void houseWhatOthers() {
        for (int house = 0; house < 4; house++) {
            int asked = house;
            e.due("P5 what 6 of " + house, four().house(house, 6), house);
            e.leaves("P5 what -1 of " + house, -1, Edges::rich, x -> x.house(asked, -1));
            e.leaves("P5 what 7 of " + house, -1, Edges::rich, x -> x.house(asked, 7));
            for (int far : Edges.FAR_OFF) {
                e.due("P5 what " + far, Edges.rich().house(house, far), -1);
                e.due("P5 both far off", Edges.rich().house(far, far), -1);
            }
        }
    }

    /** Promise 5: "what 0: KIND (0 plain, 1 stout, 2 sharp, 3 cat), 1: thickness, 2: wet, 3: ink". */
    private static void houseKinds() {
        int[][] want = {{1, 8, 40, 4}, {2, 4, 29, 2}, {3, 2, 16, 7}, {0, 6, 32, 1}};
        for (int h = 0; h < 4; h++) {
            for (int what = 0; what < 4; what++) {
                e.due("P5 house " + h + ", " + what, four().house(h, what), want[h][what]);
            }
        }
    }

    /** Promise 5: "4: what was PRINTED on it": 0 at first, on those behind one by a run. */
    private static void housePrinted() {
        MangleTown x = four();
        for (int h = 0; h < 4; h++) {
            e.due("P5 nothing printed", x.house(h, 4), 0);
        }
        x.run();
        int[] want = {0, 4, 0, 2};
        for (int h = 0; h < 4; h++) {
            e.due("P5 printed", x.house(h, 4), want[h]);
        }
    }

    /** Promise 5: "5: 1 on the ROAD": else 0. */
    private static void houseOnTheRoad() {
        MangleTown x = four();
        for (int h = 0; h < 4; h++) {
            e.due("P5 goes", x.house(h, 5), 0);
            x.road(h);
            e.due("P5 on the road", x.house(h, 5), 1);
        }
        x.road(2);
        e.due("P5 no more", x.house(2, 5), 0);
        e.due("P5 the others are", x.house(3, 5), 1);
    }

    /** Promise 5: "6: its place in the ORDER": of one on the road, too. */
    private static void housePlace() {
        MangleTown x = four();
        x.road(0);
        x.put(0, 3);
        row("P5 put", x, 1, 2, 3, 0);
    }

    /** Promise 6: "The HOUSE at a place of the ORDER; NONE: others." */
    private static void orderOthers() {
        e.due("P6 place 0", four().order(0), 0);
        e.due("P6 place 3", four().order(3), 3);
        e.leaves("P6 place -1", -1, Edges::rich, x -> x.order(-1));
        e.leaves("P6 place 4", -1, Edges::rich, x -> x.order(4));
        for (int far : Edges.FAR_OFF) {
            e.due("P6 place " + far, Edges.rich().order(far), -1);
        }
        e.due("P6 place 6 of seven", seven().order(6), 6);
        e.due("P6 place 7 of seven", seven().order(7), -1);
        e.due("P6 place 0 of one", one().order(0), 0);
        e.due("P6 place 1 of one", one().order(1), -1);
        e.due("P6 place 0 of none", new MangleTown().order(0), -1);
    }

    /** Terms: "The ORDER is a row of all HOUSES": cats and those on the ROAD stand in it, too. */
    private static void orderAllHouses() {
        MangleTown x = four();
        for (int h = 0; h < 4; h++) {
            x.road(h);
        }
        row("P6 all on the road", x, 0, 1, 2, 3);
        x.run();
        row("P6 behind a run", x, 0, 1, 2, 3);
    }

    /** Promise 7: "NONE: others". */
    private static void aheadOthers() {
        e.leaves("P7 house -1", -1, Edges::rich, x -> x.ahead(-1));
        e.leaves("P7 house 4", -1, Edges::rich, x -> x.ahead(4));
        for (int far : Edges.FAR_OFF) {
            e.due("P7 house " + far, Edges.rich().ahead(far), -1);
        }
        e.due("P7 house 3", four().ahead(3), 1);
        e.due("P7 house 6 of seven", seven().ahead(6), 5);
        e.due("P7 house 7 of seven", seven().ahead(7), -1);
    }

    /** Promise 7: "The one ahead of a HOUSE that GOES": one on the ROAD has none. */
    private static void aheadOnTheRoad() {
        MangleTown x = seven();
        e.due("P7 goes", x.ahead(6), 5);
        x.road(6);
        e.due("P7 on the road", x.ahead(6), -1);
        x.road(6);
        e.due("P7 goes again", x.ahead(6), 5);
    }

    /** Promise 7: "NONE: [..] none": the first, one alone, one behind those on the ROAD. */
    private static void aheadNone() {
        e.due("P7 alone", one().ahead(0), -1);
        MangleTown x = seven();
        e.due("P7 the first", x.ahead(0), -1);
        e.due("P7 the second", x.ahead(1), 0);
        for (int h = 0; h < 6; h++) {
            x.road(h);
            e.due("P7 the last", x.ahead(6), h < 5 ? 5 : -1);
        }
        x.put(6, 0);
        x.road(0);
        e.due("P7 the first of two", x.ahead(6), -1);
        e.due("P7 the second of two", x.ahead(0), 6);
    }

    /** Terms: "the last one ahead of it in the ORDER that GOES and is no cat". */
    private static void aheadNoCat() {
        MangleTown x = Checks.of(CATS + Edges.plain(2, 3, 9, 5));
        int[] told = {-1, -1, -1, 2};
        for (int h = 0; h < 4; h++) {
            e.due("P7 cats first", x.ahead(h), told[h]);
        }
        x.put(2, 0);
        int[] then = {2, 2, -1, 2};
        for (int h = 0; h < 4; h++) {
            e.due("P7 behind two cats", x.ahead(h), then[h]);
        }
        x.road(2);
        for (int h = 0; h < 4; h++) {
            e.due("P7 cats alone", x.ahead(h), -1);
        }
    }

    /** Terms: "the last one ahead of it": the nearest, by the ORDER and not by numbers. */
    private static void aheadTheLast() {
        MangleTown x = seven();
        x.put(0, 6);
        x.put(5, 0);
        row("P6 put", x, 5, 1, 2, 3, 4, 6, 0);
        int[] want = {6, 5, 1, 2, 3, -1, 4};
        for (int h = 0; h < 7; h++) {
            e.due("P7 ahead of " + h, x.ahead(h), want[h]);
        }
        x.road(6);
        e.due("P7 past the road", x.ahead(0), 4);
    }

    /** Promise 8: "PRESSED out of a HOUSE [..]; NONE: others." */
    private static void pressedOthers() {
        e.leaves("P8 house -1", -1, Edges::rich, x -> x.pressed(-1));
        e.leaves("P8 house 4", -1, Edges::rich, x -> x.pressed(4));
        for (int far : Edges.FAR_OFF) {
            e.due("P8 house " + far, Edges.rich().pressed(far), -1);
        }
        int[] want = {40, 14, 8, 32};
        for (int h = 0; h < 4; h++) {
            int asked = h;
            e.leaves("P8 house " + h, want[h], EdgeHandTest::four, x -> x.pressed(asked));
        }
        e.due("P8 house 6 of seven", seven().pressed(6), 25);
        e.due("P8 house 7 of seven", seven().pressed(7), -1);
    }

    /** Promise 8: "(whether it GOES or not), as all is now". */
    private static void pressedWhetherItGoes() {
        MangleTown x = four();
        x.road(3);
        e.due("P8 on the road", x.pressed(3), 32);
        e.due("P12 40, 14, 8", x.run(), 62);
        // inn has made the gap 6; shop is 7 thick by the road, and has 1 wet more.
        e.due("P8 on the road, as all is now", x.pressed(3), 33);
        x.road(3);
        e.due("P8 it goes", x.pressed(3), 33);
        e.due("P8 hall, 7 thick, 1 wet", x.pressed(0), 1);
    }

    /** Promise 9: "BLOT of the first one on the other one [..]; NONE: others". */
    private static void blotOthers() {
        e.due("P9 0, 3", four().blot(0, 3), 4);
        e.due("P9 3, 0", four().blot(3, 0), 1);
        for (int wrong : new int[] {-1, 4}) {
            e.leaves("P9 " + wrong + ", 0", -1, Edges::rich, x -> x.blot(wrong, 0));
            e.leaves("P9 0, " + wrong, -1, Edges::rich, x -> x.blot(0, wrong));
            e.leaves("P9 " + wrong + " on a cat", -1, Edges::rich, x -> x.blot(wrong, 2));
            e.leaves("P9 both " + wrong, -1, Edges::rich, x -> x.blot(wrong, wrong));
        }
        for (int far : Edges.FAR_OFF) {
            e.due("P9 " + far + ", 0", Edges.rich().blot(far, 0), -1);
            e.due("P9 0, " + far, Edges.rich().blot(0, far), -1);
        }
        e.due("P9 6, 5 of seven", seven().blot(6, 5), 3);
        e.due("P9 5, 6 of seven", seven().blot(5, 6), 3);
        e.due("P9 6, 7 of seven", seven().blot(6, 7), -1);
        e.due("P9 7, 6 of seven", seven().blot(7, 6), -1);
    }

    /** Promise 9: "NONE: [..] the same". */
    private static void blotTheSame() {
        for (int h = 0; h < 4; h++) {
            int asked = h;
            e.leaves("P9 the same " + h, -1, Edges::rich, x -> x.blot(asked, asked));
        }
        e.due("P9 the same of one", one().blot(0, 0), -1);
    }

    /** Promise 9: "NONE: [..] of a cat": on another cat, too. */
    private static void blotOfACat() {
        for (int other = 0; other < 4; other++) {
            int asked = other;
            e.leaves("P9 of a cat on " + other, -1, Edges::rich, x -> x.blot(2, asked));
        }
        MangleTown x = Checks.of(CATS);
        e.due("P9 of a cat on a cat", x.blot(0, 1), -1);
        e.due("P9 of a cat on a cat", x.blot(1, 0), -1);
    }

    /** Promise 9: "(0 on a cat)". */
    private static void blotOnACat() {
        MangleTown x = Checks.of(Edges.FOUR + "prints 9;");
        int[] want = {0, 0, -1, 0};
        for (int h = 0; h < 4; h++) {
            e.due("P9 of " + h + " on a cat", x.blot(h, 2), want[h]);
        }
        e.due("P9 on another one", x.blot(0, 1), 9);
    }

    /** Terms: "what would be PRINTED on this, were that one the one ahead of it (as all is now)": on the ROAD, too. */
    private static void blotWhetherTheyGo() {
        MangleTown x = Checks.of(Edges.plain(3, 4, 50, 3) + Edges.house("z", "plain", 4, 50, 8));
        x.road(0);
        x.road(3);
        e.due("P9 of one on the road", x.blot(3, 1), 8);
        e.due("P9 on one on the road", x.blot(1, 0), 3);
        e.due("P9 both on the road", x.blot(3, 0), 8);
        e.due("P9 of one behind", x.blot(2, 1), 3);
    }

    /** Promise 10: "PUT: true; false: others": numbers that are no HOUSE's. */
    private static void putOthers() {
        e.does("P10 the first", 1, EdgeHandTest::four, x -> Edges.bit(x.put(0, 1)));
        e.does("P10 the last", 1, EdgeHandTest::four, x -> Edges.bit(x.put(3, 1)));
        for (int place = 0; place < 4; place++) {
            int to = place;
            e.leaves("P10 house -1 to " + to, 0, Edges::richWithTape, x -> Edges.bit(x.put(-1, to)));
            e.leaves("P10 house 4 to " + to, 0, Edges::richWithTape, x -> Edges.bit(x.put(4, to)));
        }
        for (int far : Edges.FAR_OFF) {
            e.leaves("P10 house " + far, 0, Edges::rich, x -> Edges.bit(x.put(far, 0)));
            e.leaves("P10 both " + far, 0, Edges::rich, x -> Edges.bit(x.put(far, far)));
        }
        e.leaves("P10 house 7 of seven", 0, EdgeHandTest::seven, x -> Edges.bit(x.put(7, 0)));
        e.leaves("P10 house 1 of one", 0, EdgeHandTest::one, x -> Edges.bit(x.put(1, 0)));
    }

    /** Promise 10: "PUT: true; false: others": "a place (0 on) of the ORDER". */
    private static void putPlaces() {
        e.does("P10 to 0", 1, Edges::rich, x -> Edges.bit(x.put(2, 0)));
        e.does("P10 to 3", 1, Edges::rich, x -> Edges.bit(x.put(2, 3)));
        for (int house = 0; house < 4; house++) {
            int who = house;
            e.leaves("P10 " + who + " to -1", 0, Edges::richWithTape, x -> Edges.bit(x.put(who, -1)));
            e.leaves("P10 " + who + " to 4", 0, Edges::richWithTape, x -> Edges.bit(x.put(who, 4)));
        }
        for (int far : Edges.FAR_OFF) {
            e.leaves("P10 to " + far, 0, Edges::rich, x -> Edges.bit(x.put(0, far)));
        }
        e.does("P10 to 6 of seven", 1, EdgeHandTest::seven, x -> Edges.bit(x.put(0, 6)));
        e.does("P10 6 to 6 of seven", 1, EdgeHandTest::seven, x -> Edges.bit(x.put(6, 6)));
        e.leaves("P10 to 7 of seven", 0, EdgeHandTest::seven, x -> Edges.bit(x.put(0, 7)));
        e.does("P10 to 0 of one", 1, EdgeHandTest::one, x -> Edges.bit(x.put(0, 0)));
        e.leaves("P10 to 1 of one", 0, EdgeHandTest::one, x -> Edges.bit(x.put(0, 1)));
    }

    /** Terms: "PUT a HOUSE to a place [..]: it goes out of the row and in again, at that place". */
    private static void putRow() {
        for (int house = 0; house < 7; house++) {
            for (int place = 0; place < 7; place++) {
                MangleTown x = seven();
                e.due("P10 put", x.put(house, place), true);
                List<Integer> want = new ArrayList<>(List.of(0, 1, 2, 3, 4, 5, 6));
                want.remove(Integer.valueOf(house));
                want.add(place, house);
                row("P10 " + house + " to " + place, x, want.stream().mapToInt(i -> i).toArray());
            }
        }
        MangleTown x = seven();
        x.put(0, 6);
        x.put(1, 6);
        x.put(6, 0);
        x.put(3, 3);
        row("P10 one put behind another", x, 6, 2, 4, 3, 5, 0, 1);
    }

    /** Promise 10: "PUT: true": where it is already, on the ROAD, a cat: all can be undone. */
    private static void putWhereItIs() {
        MangleTown x = four();
        for (int h = 0; h < 4; h++) {
            e.due("P10 where it is", x.put(h, h), true);
            e.due("P33 one more can be undone", x.count(13), h + 1);
        }
        row("P10 where they are", x, 0, 1, 2, 3);
        x.road(0);
        e.due("P10 one on the road", x.put(0, 2), true);
        row("P10 one on the road", x, 1, 2, 0, 3);
        e.due("P11 it stays there", x.house(0, 5), 1);
    }

    /** Promise 11: "ROAD: true; false: others." */
    private static void roadOthers() {
        for (int h = 0; h < 4; h++) {
            int who = h;
            e.does("P11 house " + h, 1, Edges::rich, x -> Edges.bit(x.road(who)));
        }
        e.leaves("P11 house -1", 0, Edges::richWithTape, x -> Edges.bit(x.road(-1)));
        e.leaves("P11 house 4", 0, Edges::richWithTape, x -> Edges.bit(x.road(4)));
        for (int far : Edges.FAR_OFF) {
            e.leaves("P11 house " + far, 0, Edges::rich, x -> Edges.bit(x.road(far)));
        }
        // 32 and 35 are 0 and 3 by five bits.
        e.leaves("P11 house 32", 0, Edges::rich, x -> Edges.bit(x.road(32)));
        e.leaves("P11 house 35", 0, Edges::rich, x -> Edges.bit(x.road(35)));
        e.does("P11 house 6 of seven", 1, EdgeHandTest::seven, x -> Edges.bit(x.road(6)));
        e.leaves("P11 house 7 of seven", 0, EdgeHandTest::seven, x -> Edges.bit(x.road(7)));
        e.does("P11 house 0 of one", 1, EdgeHandTest::one, x -> Edges.bit(x.road(0)));
        e.leaves("P11 house 1 of one", 0, EdgeHandTest::one, x -> Edges.bit(x.road(1)));
    }

    /** Terms: "ROAD: a HOUSE goes by the road, or no more." */
    private static void roadOrNoMore() {
        MangleTown x = four();
        for (int i = 1; i <= 6; i++) {
            e.due("P11 road", x.road(2), true);
            e.due("P33 bits", x.count(5), i % 2 == 1 ? 4 : 0);
            e.due("P33 each can be undone", x.count(13), i);
        }
        row("P11 the order stays", x, 0, 1, 2, 3);
    }

    /** Terms: ROAD of one house behind another, all seven. */
    private static void roadOfAll() {
        MangleTown x = seven();
        int bits = 0;
        for (int h = 6; h >= 0; h--) {
            x.road(h);
            bits |= 1 << h;
            e.due("P33 bits", x.count(5), bits);
        }
        e.due("P33 all seven", x.count(5), 127);
        for (int h = 0; h < 7; h++) {
            e.due("P7 nobody goes", x.ahead(h), -1);
            e.due("P28 nobody goes", x.share(h), -1);
        }
    }
}
