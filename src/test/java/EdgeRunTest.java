/** Boundaries of promises 12 to 14: runs, pints sold, what is undone. One test for each sentence. */
public final class EdgeRunTest {
    private static final Edges e = new Edges();
    private static final String FULL = Edges.plain(7, 9, 99, 0) + "rains 9;price 1;";

    public static void main(String[] args) {
        nobodyTold();
        nobodyGoes();
        onlyThoseThatGo();
        pintsAtMost();
        pintsNoRoom();
        printedAtMost();
        printedLastStep();
        gapAtMost();
        sharpOnesOwnGap();
        gapWidensForThoseBehind();
        stoutThickerThanTheGap();
        stoutByTheGapThen();
        stoutLeast();
        stoutIsThinnerBehind();
        dampAheadOfItsPressing();
        catsGo();
        wetAtMost();
        wetOnTheRoad();
        rainByTheFortnight();
        thickerOnTheRoad();
        nextFortnight();
        sellBounds();
        sellWhatIsThere();
        sellNothing();
        sellByThePrice();
        undoNothing();
        undoEach();
        undoSixteen();
        undoOneByOne();
        undoInTurns();
        undoNotTheRest();
        undoBehindTownAndMark();
        e.end();
    }

    private static void all(String call, MangleTown x, int what, int... want) {
        for (int h = 0; h < want.length; h++) {
            e.due(call + " of " + h, x.house(h, what), want[h]);
        }
    }

    private static MangleTown ran(MangleTown x, int runs) {
        for (int i = 0; i < runs; i++) {
            x.run();
        }
        return x;
    }

    /** Promise 12: "RUN: how many PINTS came out": of a town of nobody none; it is the next fortnight. */
    private static void nobodyTold() {
        MangleTown x = Checks.of("rains 3 4;gap 19;");
        e.due("P12 nobody", x.run(), 0);
        e.due("P33 the next fortnight", x.count(3), 1);
        e.due("P33 its rain", x.count(4), 4);
        e.due("P33 the gap", x.count(1), 19);
        e.due("P33 no wet", x.count(8), 0);
        e.due("P33 can be undone", x.count(13), 1);
    }

    /** Terms: "those that GO are PRESSED": where nobody GOES it rains all the same. */
    private static void nobodyGoes() {
        MangleTown x = Checks.of(Edges.FOUR + "rains 2;");
        for (int h = 0; h < 4; h++) {
            x.road(h);
        }
        e.due("P12 nobody goes", x.run(), 0);
        all("P12 wet", x, 2, 42, 31, 18, 34);
        all("P12 thick", x, 1, 9, 5, 3, 7);
        all("P12 printed", x, 4, 0, 0, 0, 0);
        e.due("P33 the gap", x.count(1), 5);
        e.due("P33 pints", x.count(6), 0);
        e.due("P33 fortnight", x.count(3), 1);
    }

    /** Terms: "those that GO are PRESSED and PRINTED on": those on the ROAD not, they widen no gap. */
    private static void onlyThoseThatGo() {
        MangleTown x = Checks.of(Edges.FOUR + "rains 0;");
        x.road(1);
        e.due("P12 40+8+32, the gap being 5", x.run(), 80);
        e.due("P33 the gap stays", x.count(1), 5);
        all("P12 wet", x, 2, 0, 29, 8, 0);
        all("P12 printed by hall", x, 4, 0, 0, 0, 4);
        all("P12 thick", x, 1, 7, 5, 2, 6);
    }

    /** By five runs 945 pints; so many of them sold, and a run of 63 more. */
    private static MangleTown roomFor(int sold) {
        MangleTown x = ran(Checks.of(FULL), 5);
        e.due("P33 945 pints", x.count(6), 945);
        e.due("P13 sold", x.sell(sold), sold);
        return x;
    }

    /** Terms: "there are as many PINTS more (999 at most)". */
    private static void pintsAtMost() {
        int[] sold = {10, 9, 8, 1};
        int[] want = {998, 999, 999, 999};
        for (int i = 0; i < 4; i++) {
            MangleTown x = roomFor(sold[i]);
            e.due("P12 63 come", x.run(), 63);
            e.due("P33 pints by " + (945 - sold[i]) + " and 63", x.count(6), want[i]);
        }
        MangleTown x = ran(Checks.of(FULL), 9);
        e.due("P33 999 stay 999", x.count(6), 999);
        e.due("P13 one sold", x.sell(1), 1);
        e.due("P33 998", x.count(6), 998);
    }

    /** Promise 12: "(more than there is room for, too)"; what there is no room for is pressed out all the same. */
    private static void pintsNoRoom() {
        MangleTown x = ran(Checks.of(FULL), 6);
        e.due("P33 full", x.count(6), 999);
        for (int i = 0; i < 3; i++) {
            e.due("P12 all that came", x.run(), 63);
            e.due("P33 full", x.count(6), 999);
            e.due("P33 wet by the rain alone", x.count(8), 63);
        }
    }

    /** Terms: "what was PRINTED on it is more by that (99 at most)": 11 times 9. */
    private static void printedAtMost() {
        MangleTown x = Checks.of(Edges.plain(3, 9, 9, 9));
        for (int runs = 1; runs <= 13; runs++) {
            x.run();
            int each = Math.min(99, 9 * runs);
            all("P12 printed by " + runs + " runs", x, 4, 0, each, each);
            e.due("P33 together", x.count(9), 2 * each);
        }
    }

    /** Terms: "(99 at most)": a step that goes beyond ends at 99. */
    private static void printedLastStep() {
        MangleTown x = ran(Checks.of(Edges.plain(2, 9, 9, 7)), 14);
        e.due("P5 14 times 7", x.house(1, 4), 98);
        x.run();
        e.due("P5 99", x.house(1, 4), 99);
        x.run();
        e.due("P5 still 99", x.house(1, 4), 99);
        MangleTown y = ran(Checks.of(Edges.plain(2, 9, 9, 9) + "prints 9-(damp<9);rains 8;"), 1);
        e.due("P5 9 with damp 9", y.house(1, 4), 9);
        ran(y, 11);
        e.due("P5 9 + 11 times 8", y.house(1, 4), 97);
        y.run();
        e.due("P5 97 + 8 is beyond", y.house(1, 4), 99);
    }

    /** Terms: "a sharp one makes the gap 1 wider (20 at most)". */
    private static void gapAtMost() {
        String sharp = Edges.house("a", "sharp", 9, 9, 0);
        MangleTown x = Checks.of(sharp + "gap 18;");
        int[] want = {19, 20, 20, 20};
        for (int i = 0; i < 4; i++) {
            x.run();
            e.due("P33 the gap, 18 at first, run " + i, x.count(1), want[i]);
        }
        MangleTown two = Checks.of(sharp + Edges.house("b", "sharp", 9, 9, 0) + "gap 19;");
        two.run();
        e.due("P33 two sharp ones from 19", two.count(1), 20);
        MangleTown from17 = Checks.of(sharp + Edges.house("b", "sharp", 9, 9, 0) + "gap 17;");
        from17.run();
        e.due("P33 two sharp ones from 17", from17.count(1), 19);
        MangleTown none = Checks.of(Edges.house("a", "stout", 9, 9, 0) + Edges.house("b", "plain", 9, 9, 0)
                + Edges.house("c", "cat", 9, 9, 0));
        none.run();
        e.due("P33 no sharp one", none.count(1), 5);
    }

    /** Terms: "those that GO are PRESSED [..] (as all is then": a sharp one by the gap ahead of its widening. */
    private static void sharpOnesOwnGap() {
        MangleTown x = Checks.of(Edges.house("a", "sharp", 6, 40, 0) + "rains 0;");
        e.due("P12 6 is above 5", x.run(), 40);
        MangleTown y = Checks.of(Edges.house("a", "sharp", 5, 40, 0) + "rains 0;");
        e.due("P12 5 is not above 5", y.run(), 20);
    }

    /** Terms: "one behind another [..] (as all is then": those behind a sharp one by the wider gap. */
    private static void gapWidensForThoseBehind() {
        String town = Edges.house("a", "plain", 6, 40, 0) + Edges.house("s", "sharp", 6, 40, 0)
                + Edges.house("b", "plain", 6, 40, 0) + Edges.house("c", "plain", 7, 40, 0) + "rains 0;";
        MangleTown x = Checks.of(town);
        e.due("P12 40+40+20+40", x.run(), 140);
        all("P12 wet", x, 2, 0, 0, 20, 0);
    }

    /** Terms: "a stout one that is thicker than the gap then loses 1 of its thickness". */
    private static void stoutThickerThanTheGap() {
        MangleTown x = Checks.of(Edges.house("a", "stout", 6, 40, 0) + Edges.house("b", "stout", 5, 40, 0)
                + Edges.house("c", "stout", 4, 40, 0) + Edges.house("d", "plain", 6, 40, 0)
                + Edges.house("k", "cat", 6, 40, 0));
        x.run();
        all("P12 thick", x, 1, 5, 5, 4, 6, 6);
        x.run();
        all("P12 no more", x, 1, 5, 5, 4, 6, 6);
        MangleTown thick = Checks.of(Edges.house("a", "stout", 20, 40, 0) + "gap 17;");
        int[] want = {19, 18, 17, 17};
        for (int i = 0; i < 4; i++) {
            thick.run();
            e.due("P12 20 thick, the gap 17, run " + i, thick.house(0, 1), want[i]);
        }
    }

    /** Terms: "(by the gap as it is then)": widened by a sharp one ahead of it, not by one behind it. */
    private static void stoutByTheGapThen() {
        MangleTown ahead = Checks.of(Edges.house("s", "sharp", 1, 0, 0) + Edges.house("a", "stout", 6, 40, 0)
                + Edges.house("b", "stout", 7, 40, 0));
        ahead.run();
        all("P12 by a gap of 6", ahead, 1, 1, 6, 6);
        MangleTown behind = Checks.of(Edges.house("a", "stout", 6, 40, 0) + Edges.house("s", "sharp", 1, 0, 0));
        behind.run();
        all("P12 by a gap of 5", behind, 1, 5, 1);
    }

    /** Terms: thick 1 to 20: a stout one is never thinner than the least gap. */
    private static void stoutLeast() {
        MangleTown x = Checks.of(Edges.house("a", "stout", 3, 9, 0) + "gap 1;");
        int[] want = {2, 1, 1, 1};
        for (int i = 0; i < 4; i++) {
            x.run();
            e.due("P12 3 thick, the gap 1, run " + i, x.house(0, 1), want[i]);
        }
    }

    /** Terms: "(as all is then": those behind a stout one see it as it is behind its pressing, it itself not. */
    private static void stoutIsThinnerBehind() {
        MangleTown x = Checks.of(Edges.house("z", "plain", 2, 9, 0) + Edges.house("a", "stout", 9, 90, 0)
                + Edges.house("b", "plain", 1, 90, 0) + "gap 3;presses wide;prints wall+wide-7;");
        // a is pressed as 9, printed on by 2+9-7; b by 8+1-7.
        e.due("P12 2+9+1", x.run(), 12);
        all("P12 printed", x, 4, 0, 4, 2);
        all("P12 thick", x, 1, 2, 8, 1);
    }

    /** Terms: "damp as it is ahead of its own pressing": of prints, too. */
    private static void dampAheadOfItsPressing() {
        MangleTown x = Checks.of(Edges.plain(2, 9, 6, 0) + "presses damp;prints damp;rains 1;");
        e.due("P12 6+6", x.run(), 12);
        e.due("P12 printed by the 6 it had", x.house(1, 4), 6);
        x.run();
        e.due("P12 printed by the 1 it had", x.house(1, 4), 7);
    }

    /** Terms: "nothing on a cat", which is pressed and rained on like others, and is ahead of nobody. */
    private static void catsGo() {
        MangleTown x = Checks.of(Edges.house("k", "cat", 9, 30, 9) + Edges.house("a", "plain", 9, 30, 2)
                + Edges.house("m", "cat", 9, 30, 9) + Edges.house("b", "plain", 9, 30, 5) + "rains 4;");
        e.due("P12 30 of each", x.run(), 120);
        all("P12 wet", x, 2, 4, 4, 4, 4);
        all("P12 printed", x, 4, 0, 0, 0, 2);
        all("P12 thick", x, 1, 9, 9, 9, 9);
    }

    /** Terms: "their wet is more by the told rain [..] (99 at most)". */
    private static void wetAtMost() {
        int[] wets = {0, 89, 90, 91, 98, 99};
        for (int wet : wets) {
            MangleTown x = Checks.of(Edges.house("a", "plain", 9, wet, 0) + "presses 0;rains 9;");
            x.run();
            e.due("P12 wet " + wet + " and 9", x.house(0, 2), Math.min(99, wet + 9));
        }
        MangleTown dry = Checks.of(Edges.house("a", "plain", 9, 99, 0) + "presses 0;rains 0;");
        dry.run();
        e.due("P12 wet 99 and 0", dry.house(0, 2), 99);
    }

    /** Terms: "Then it rains on all HOUSES": on those on the ROAD, too, 99 at most. */
    private static void wetOnTheRoad() {
        MangleTown x = Checks.of(Edges.plain(2, 9, 90, 0) + Edges.house("z", "plain", 9, 91, 0) + "rains 9;");
        for (int h = 0; h < 3; h++) {
            x.road(h);
        }
        x.run();
        all("P12 wet", x, 2, 99, 99, 99);
        x.run();
        e.due("P33 all", x.count(8), 297);
    }

    /** Terms: "by the told rain whose place (from 0) is the fortnight's number, modulo how many are told". */
    private static void rainByTheFortnight() {
        MangleTown x = Checks.of(Edges.house("a", "plain", 9, 0, 0) + "presses 0;rains 1 2 3 0 0 0 0 0 0 0 0 4;");
        int[] want = {1, 3, 6, 6, 6, 6, 6, 6, 6, 6, 6, 10, 11, 13, 16};
        for (int i = 0; i < want.length; i++) {
            x.run();
            e.due("P12 wet by run " + i, x.house(0, 2), want[i]);
        }
    }

    /** Terms: "one on the ROAD is 1 thicker, too (20 at most)": those that GO are not. */
    private static void thickerOnTheRoad() {
        MangleTown x = Checks.of(Edges.house("a", "plain", 18, 0, 0) + Edges.house("s", "stout", 1, 0, 0)
                + Edges.house("k", "cat", 19, 0, 0) + Edges.house("b", "plain", 18, 0, 0));
        x.road(0);
        x.road(1);
        x.road(2);
        int[][] want = {{19, 2, 20, 18}, {20, 3, 20, 18}, {20, 4, 20, 18}};
        for (int[] row : want) {
            x.run();
            all("P12 thick", x, 1, row);
        }
        x.road(0);
        x.run();
        all("P12 off the road again", x, 1, 20, 5, 20, 18);
    }

    /** Terms: "It is the next fortnight." */
    private static void nextFortnight() {
        MangleTown x = new MangleTown();
        for (int i = 0; i < 200; i++) {
            e.due("P33 fortnight", x.count(3), i);
            x.run();
        }
    }

    /** 198 pints, the price 2. */
    private static MangleTown many() {
        return ran(Checks.of(Edges.plain(2, 9, 99, 0) + "price 2;"), 1);
    }

    /** 40 pints, the price 2. */
    private static MangleTown some() {
        return ran(Checks.of(Edges.plain(1, 9, 40, 0) + "price 2;"), 1);
    }

    /** Promise 13: "SELL (1 to 99): coins then; NONE: others". */
    private static void sellBounds() {
        e.does("P13 1", 2, EdgeRunTest::many, x -> x.sell(1));
        e.does("P13 99", 198, EdgeRunTest::many, x -> x.sell(99));
        for (int pints : new int[] {0, 100, -1, -99, 198}) {
            e.leaves("P13 " + pints, -1, EdgeRunTest::many, x -> x.sell(pints));
            e.leaves("P13 rich " + pints, -1, Edges::richWithTape, x -> x.sell(pints));
        }
        for (int far : Edges.FAR_OFF) {
            e.leaves("P13 " + far, -1, EdgeRunTest::many, x -> x.sell(far));
        }
        MangleTown x = many();
        e.due("P13 99", x.sell(99), 198);
        e.due("P13 the other 99", x.sell(99), 396);
        e.due("P33 none left", x.count(6), 0);
        e.due("P13 none", x.sell(1), -1);
    }

    /** Promise 13: "NONE: [..] there are not so many". */
    private static void sellWhatIsThere() {
        e.does("P13 39 of 40", 78, EdgeRunTest::some, x -> x.sell(39));
        e.does("P13 40 of 40", 80, EdgeRunTest::some, x -> x.sell(40));
        e.leaves("P13 41 of 40", -1, EdgeRunTest::some, x -> x.sell(41));
        e.leaves("P13 99 of 40", -1, EdgeRunTest::some, x -> x.sell(99));
        MangleTown x = some();
        e.due("P13 39", x.sell(39), 78);
        e.due("P13 2 of 1", x.sell(2), -1);
        e.due("P33 one is left", x.count(6), 1);
        e.due("P33 coins stay", x.count(7), 78);
        e.due("P13 1 of 1", x.sell(1), 80);
    }

    /** Promise 13: "NONE: [..] there are not so many": where there are none yet. */
    private static void sellNothing() {
        e.leaves("P13 1 of none", -1, () -> Checks.of(Edges.FOUR), x -> x.sell(1));
        e.leaves("P13 99 of none", -1, () -> Checks.of(Edges.FOUR), x -> x.sell(99));
    }

    /** Terms: "SELL: [..] coins by the price": 0 and 99, too. */
    private static void sellByThePrice() {
        int[] prices = {0, 1, 99};
        for (int price : prices) {
            MangleTown x = ran(Checks.of(Edges.plain(7, 9, 99, 0) + "price " + price + ";"), 1);
            for (int i = 1; i <= 7; i++) {
                e.due("P13 99 for " + price, x.sell(99), i * 99 * price);
                e.due("P33 coins", x.count(7), i * 99 * price);
                e.due("P33 pints", x.count(6), 693 - 99 * i);
            }
        }
    }

    /** Promise 14: "UNDO: true; false: nothing can be." */
    private static void undoNothing() {
        e.leaves("P14 nothing done", 0, () -> Checks.of(Edges.FOUR), x -> Edges.bit(x.undo()));
        MangleTown x = Checks.of(Edges.FOUR);
        x.run();
        e.due("P14 one", x.undo(), true);
        e.due("P14 no more", x.undo(), false);
        // Refused calls leave nothing to undo.
        x.put(4, 0);
        x.put(0, 4);
        x.road(-1);
        x.sell(1);
        e.due("P33 nothing", x.count(13), 0);
        e.due("P14 nothing", x.undo(), false);
    }

    /** Terms: "UNDO: all of these": put, road, run, sell, each with all that it changed. */
    private static void undoEach() {
        e.does("P14 put", 1, Edges::rich, x -> Edges.bit(x.put(0, 2)));
        e.does("P14 road", 1, Edges::rich, x -> Edges.bit(x.road(3)));
        e.does("P14 road, no more", 1, Edges::rich, x -> Edges.bit(x.road(1)));
        e.does("P14 sell", 28, Edges::rich, x -> x.sell(2));
        MangleTown x = Edges.rich();
        String ahead = Edges.looks(x);
        int undos = x.count(13);
        x.run();
        e.due("P33 one more", x.count(13), undos + 1);
        e.due("P14 run", x.undo(), true);
        e.same("P14 run undone", Edges.looks(x), ahead);
    }

    /** Terms: "UNDO: [..] the last 16": 15, 16, and 17 of them. */
    private static void undoSixteen() {
        for (int runs : new int[] {1, 15, 16, 17, 18, 31, 32, 33, 100}) {
            MangleTown x = ran(Checks.of(Edges.FOUR), runs);
            int can = Math.min(16, runs);
            e.due("P33 by " + runs + " runs", x.count(13), can);
            for (int i = 1; i <= can; i++) {
                e.due("P14 undo", x.undo(), true);
                e.due("P33 fortnight", x.count(3), runs - i);
                e.due("P33 what can be undone", x.count(13), can - i);
            }
            e.due("P14 no more", x.undo(), false);
            e.due("P33 fortnight", x.count(3), runs - can);
        }
    }

    /** Terms: "UNDO: [..] one by one": of four kinds in turn, all that each was. */
    private static void undoOneByOne() {
        MangleTown x = Checks.of(Edges.FOUR + "rains 3;");
        String[] ahead = new String[16];
        for (int i = 0; i < 16; i++) {
            ahead[i] = state(x);
            if (i % 4 == 0) {
                x.put(i / 4, 3 - i / 4);
            } else if (i % 4 == 1) {
                x.road(i / 4);
            } else if (i % 4 == 2) {
                x.run();
            } else {
                e.due("P13 one", x.sell(1) > 0, true);
            }
        }
        for (int i = 15; i >= 0; i--) {
            e.due("P14 undo", x.undo(), true);
            e.same("P14 as it was ahead of " + i, state(x), ahead[i]);
        }
        e.due("P14 no more", x.undo(), false);
    }

    /** What can change by hand, in few calls. */
    private static String state(MangleTown x) {
        StringBuilder out = new StringBuilder();
        for (int what : new int[] {1, 3, 5, 6, 7, 8, 9}) {
            out.append(x.count(what)).append(' ');
        }
        return out.append(x.order(0)).append(x.order(3)).append(x.house(0, 1)).toString();
    }

    /** Terms: "the last 16": done, undone and done again, so that the room for them goes round. */
    private static void undoInTurns() {
        MangleTown x = ran(Checks.of(Edges.FOUR), 20);
        for (int i = 0; i < 5; i++) {
            e.due("P14 undo", x.undo(), true);
        }
        e.due("P33 11 are left", x.count(13), 11);
        ran(x, 3);
        e.due("P33 14", x.count(13), 14);
        e.due("P33 fortnight 18", x.count(3), 18);
        ran(x, 4);
        e.due("P33 16", x.count(13), 16);
        for (int i = 1; i <= 16; i++) {
            e.due("P14 undo", x.undo(), true);
            e.due("P33 fortnight", x.count(3), 22 - i);
        }
        e.due("P14 no more", x.undo(), false);
        e.due("P33 fortnight 6", x.count(3), 6);
    }

    /** Terms: "UNDO: all of these": the YEARS, what is HEARD, SEEN, the TAPE, MARKS are none of them. */
    private static void undoNotTheRest() {
        MangleTown x = Checks.of(Edges.FOUR);
        x.run();
        x.hear(5);
        x.see(0, 1);
        Checks.years(x, "run;run;");
        x.mark(2, false);
        x.feed(0x616263, 0, 0);
        e.due("P33 the run alone", x.count(13), 1);
        e.due("P14 undo", x.undo(), true);
        e.due("P33 heard", x.count(12), 5);
        e.due("P33 seen", x.count(11), 1);
        e.due("P33 lines", x.count(10), 2);
        e.due("P33 signs", x.count(14), 3);
        e.due("P33 fortnight", x.count(3), 0);
        e.due("P14 no more", x.undo(), false);
        e.due("P32 the mark", x.mark(2, true), true);
        e.due("P33 fortnight of the mark", x.count(3), 1);
    }

    /** Terms: a TOWN: "nothing can be undone"; MARKS: "nothing can be undone when one is gone back to". */
    private static void undoBehindTownAndMark() {
        MangleTown x = ran(Checks.of(Edges.FOUR), 20);
        x.mark(0, false);
        e.due("P33 a mark laid leaves it", x.count(13), 16);
        x.mark(0, true);
        e.due("P33 a mark gone back to", x.count(13), 0);
        e.due("P14 nothing", x.undo(), false);
        ran(x, 2);
        e.due("P14 the first", x.undo(), true);
        e.due("P14 the second", x.undo(), true);
        e.due("P14 nothing", x.undo(), false);
        e.due("P33 fortnight", x.count(3), 20);
        ran(x, 2);
        e.due("P3 a fault", Checks.town(x, "x"), 1);
        e.due("P33 a fault leaves it", x.count(13), 2);
        e.due("P3 a town", Checks.town(x, Edges.FOUR), 0);
        e.due("P14 nothing", x.undo(), false);
    }
}
