/** Boundaries of promises 32 and 33: marks, counts. One test for each sentence. */
public final class EdgeMarkTest {
    private static final Edges e = new Edges();

    public static void main(String[] args) {
        markOthers();
        markNothingOnIt();
        markOfNobody();
        markHolds();
        markKeepsItsOwn();
        markSeen();
        markAgain();
        markFour();
        markNothingUndone();
        markLeavesTheTape();
        markOfRefusedTown();
        markBehindTown();
        markOfFullRows();
        countOthers();
        countNothing();
        countHouses();
        countGapAndPrice();
        countFortnightAndRain();
        countRoad();
        countPintsAndCoins();
        countWet();
        countPrinted();
        countLines();
        countSeen();
        countHeard();
        countUndone();
        countSigns();
        countChangesNothing();
        e.end();
    }

    private static int marked(MangleTown x, int mark, boolean back) {
        return Edges.bit(x.mark(mark, back));
    }

    /** Promise 32: "false: none such": "MARKS 0 to 3". */
    private static void markOthers() {
        for (int mark = 0; mark <= 3; mark++) {
            e.due("P32 laid " + mark, new MangleTown().mark(mark, false), true);
        }
        for (int mark : new int[] {-1, 4, 5, 7}) {
            e.leaves("P32 laid " + mark, 0, Edges::richWithTape, x -> marked(x, mark, false));
            e.leaves("P32 back " + mark, 0, Edges::richWithTape, x -> marked(x, mark, true));
        }
        for (int far : Edges.FAR_OFF) {
            e.leaves("P32 laid " + far, 0, Edges::rich, x -> marked(x, far, false));
            e.leaves("P32 back " + far, 0, Edges::rich, x -> marked(x, far, true));
        }
    }

    /** Promise 32: "false: [..] nothing is on it (back)". */
    private static void markNothingOnIt() {
        // Rich has laid 1 and 3.
        e.leaves("P32 nothing on 0", 0, Edges::richWithTape, x -> marked(x, 0, true));
        e.leaves("P32 nothing on 2", 0, Edges::richWithTape, x -> marked(x, 2, true));
        e.due("P32 back to 1", Edges.rich().mark(1, true), true);
        e.due("P32 back to 3", Edges.rich().mark(3, true), true);
        for (int mark = 0; mark <= 3; mark++) {
            int asked = mark;
            e.leaves("P32 nothing told, back to " + mark, 0, MangleTown::new, x -> marked(x, asked, true));
        }
    }

    /** Promise 32, where nothing is told yet: a MARK can be laid and gone back to. */
    private static void markOfNobody() {
        MangleTown x = new MangleTown();
        e.due("P32 laid", x.mark(0, false), true);
        x.run();
        x.run();
        x.hear(9);
        Checks.years(x, "run;");
        e.due("P32 back", x.mark(0, true), true);
        e.due("P33 fortnight", x.count(3), 0);
        e.due("P33 heard", x.count(12), -1);
        e.due("P33 lines", x.count(10), 0);
    }

    /** Terms: "MARKS 0 to 3 hold how it is, the YEARS, what is HEARD, SEEN". */
    private static void markHolds() {
        for (int mark = 0; mark <= 3; mark++) {
            MangleTown x = Edges.rich();
            String ahead = withoutUndo(Edges.looks(x));
            x.mark(mark, false);
            x.put(2, 0);
            x.road(0);
            x.run();
            x.sell(3);
            x.hear(693);
            x.see(1, 0);
            Checks.years(x, "run;");
            e.due("P32 another way", withoutUndo(Edges.looks(x)).equals(ahead), false);
            e.due("P32 back to " + mark, x.mark(mark, true), true);
            e.same("P32 all is back", withoutUndo(Edges.looks(x)), ahead);
        }
    }

    private static String withoutUndo(String looks) {
        return looks.replaceAll("count13=\\d+", "");
    }

    /** Terms: a MARK holds: what is done behind going back to it does not come to it. */
    private static void markKeepsItsOwn() {
        MangleTown x = Edges.rich();
        x.mark(0, false);
        int fortnight = x.count(3);
        int seen = x.count(11);
        for (int i = 0; i < 3; i++) {
            x.run();
            x.see(2, 1);
            x.hear(5);
            x.put(3, 0);
            x.road(2);
            Checks.years(x, "");
            e.due("P32 back", x.mark(0, true), true);
            e.due("P33 fortnight", x.count(3), fortnight);
            e.due("P33 seen", x.count(11), seen);
            e.due("P33 heard", x.count(12), 20);
            e.due("P33 lines", x.count(10), 5);
            e.due("P6 the first", x.order(0), 0);
            e.due("P33 road", x.count(5), 2);
        }
    }

    /** Terms: "MARKS 0 to 3 hold [..] what is [..] SEEN": each what was seen then, in place of what is seen now. */
    private static void markSeen() {
        MangleTown x = Checks.of(Edges.FOUR);
        x.mark(0, false);
        x.see(3, 0);
        x.mark(1, false);
        x.mark(0, true);
        x.see(1, 3);
        x.see(2, 1);
        x.mark(2, false);
        e.due("P26 0, 2, 1, 3", x.first(1), 2);
        x.mark(1, true);
        e.due("P33 one seen", x.count(11), 1);
        e.due("P25 by that one", x.orders(), 12);
        e.due("P26 1, 2, 3, 0", x.first(2), 3);
        e.due("P26 1, 2, 3, 0", x.first(3), 0);
        x.mark(2, true);
        e.due("P33 two seen", x.count(11), 2);
        e.due("P26 0, 2, 1, 3", x.first(0), 0);
        e.due("P26 0, 2, 1, 3", x.first(2), 1);
        e.due("P26 0, 2, 1, 3", x.first(3), 3);
        x.mark(0, true);
        e.due("P25 nothing seen", x.orders(), 24);
    }

    /** Promise 32: "A MARK is laid": again, in place of what was on it. */
    private static void markAgain() {
        MangleTown x = Checks.of(Edges.FOUR);
        x.mark(2, false);
        x.run();
        x.mark(2, false);
        x.run();
        x.mark(2, true);
        e.due("P33 the later one", x.count(3), 1);
    }

    /** Terms: "MARKS 0 to 3": each its own. */
    private static void markFour() {
        MangleTown x = Checks.of(Edges.FOUR);
        for (int mark = 0; mark <= 3; mark++) {
            x.mark(mark, false);
            x.run();
            x.hear(mark);
        }
        for (int mark = 3; mark >= 0; mark--) {
            e.due("P32 back", x.mark(mark, true), true);
            e.due("P33 fortnight", x.count(3), mark);
            e.due("P33 heard", x.count(12), mark - 1);
        }
        for (int mark = 0; mark <= 3; mark++) {
            e.due("P32 to and fro", x.mark(mark, true), true);
            e.due("P33 fortnight", x.count(3), mark);
        }
    }

    /** Terms: "(nothing can be undone when one is gone back to)": when one is laid, or refused, all can. */
    private static void markNothingUndone() {
        MangleTown x = Checks.of(Edges.FOUR);
        x.run();
        x.run();
        e.due("P32 laid", x.mark(1, false), true);
        e.due("P33 two", x.count(13), 2);
        e.due("P32 refused", x.mark(0, true), false);
        e.due("P33 two", x.count(13), 2);
        e.due("P14 undo", x.undo(), true);
        e.due("P32 back", x.mark(1, true), true);
        e.due("P33 none", x.count(13), 0);
        e.due("P14 none", x.undo(), false);
        e.due("P33 fortnight", x.count(3), 2);
        x.run();
        e.due("P33 one", x.count(13), 1);
        e.due("P14 undo", x.undo(), true);
        e.due("P33 fortnight", x.count(3), 2);
    }

    /** Terms: "MARKS 0 to 3 hold how it is, the YEARS, what is HEARD, SEEN": not the TAPE. */
    private static void markLeavesTheTape() {
        MangleTown x = Checks.of(Edges.FOUR);
        Checks.feed(x, "gap");
        x.mark(0, false);
        Checks.feed(x, " 17;");
        x.mark(0, true);
        e.due("P33 signs", x.count(14), 7);
        e.due("P3 the tape", x.town(), 0);
        e.due("P33 gap 17;", x.count(1), 17);
    }

    /** Promise 3: "its FAULT (all stays then)": the MARKS, too. */
    private static void markOfRefusedTown() {
        MangleTown x = Checks.of(Edges.FOUR);
        x.mark(0, false);
        x.run();
        e.due("P3 a fault", Checks.town(x, "gap 7;x"), Edges.at(1, 6));
        e.due("P32 it is there", x.mark(0, true), true);
        e.due("P33 houses", x.count(0), 4);
        e.due("P33 fortnight", x.count(3), 0);
    }

    /** Terms: of a new TOWN "no MARK is there"; it can be laid again. */
    private static void markBehindTown() {
        MangleTown x = Checks.of(Edges.FOUR);
        for (int mark = 0; mark <= 3; mark++) {
            x.mark(mark, false);
        }
        e.due("P3 another town", Checks.town(x, Edges.plain(2, 1, 1, 1)), 0);
        for (int mark = 0; mark <= 3; mark++) {
            e.due("P32 nothing is on it", x.mark(mark, true), false);
        }
        x.mark(3, false);
        e.due("P32 laid again", x.mark(3, true), true);
        e.due("P32 the others not", x.mark(2, true), false);
        e.due("P33 the new houses", x.count(0), 2);
    }

    /** Terms: MARKS of full rows: seven houses, 40 lines, 8 SEEN, 693 HEARD. */
    private static void markOfFullRows() {
        MangleTown x = Checks.of(Edges.plain(7, 1, 99, 0));
        Checks.years(x, "put g 6;".repeat(39) + "sell 99;");
        for (int i = 0; i < 8; i++) {
            x.see(6, i % 6);
        }
        x.hear(693);
        x.put(6, 0);
        x.road(6);
        x.mark(0, false);
        e.due("P15 the last line", x.judged(0), 39);
        Checks.years(x, "run;");
        x.put(6, 6);
        x.road(6);
        x.run();
        x.mark(0, true);
        e.due("P33 lines", x.count(10), 40);
        e.due("P15 the last line", x.judged(0), 39);
        e.due("P33 seen", x.count(11), 8);
        e.due("P24 no ninth", x.see(0, 1), false);
        e.due("P26 6 is first", x.first(0), 6);
        e.due("P25 6 ahead of all", x.orders(), 720);
        e.due("P6 6 is first", x.order(0), 6);
        e.due("P33 road", x.count(5), 64);
        e.due("P33 wet", x.count(8), 693);
    }

    /** Promise 33: "NONE for another what." */
    private static void countOthers() {
        e.due("P33 what 0", Edges.rich().count(0), 4);
        e.due("P33 what 14", Edges.richWithTape().count(14), 6);
        for (int what : new int[] {-1, -2, 15, 16}) {
            e.leaves("P33 what " + what, -1, Edges::richWithTape, x -> x.count(what));
            e.leaves("P33 nothing told, what " + what, -1, MangleTown::new, x -> x.count(what));
        }
        for (int far : Edges.FAR_OFF) {
            e.leaves("P33 what " + far, -1, Edges::rich, x -> x.count(far));
        }
    }

    /** Promise 33, where nothing is told yet. */
    private static void countNothing() {
        int[] want = {0, 5, 3, 0, 1, 0, 0, 0, 0, 0, 0, 0, -1, 0, 0};
        for (int what = 0; what < want.length; what++) {
            e.due("P33 nothing told, " + what, new MangleTown().count(what), want[what]);
        }
    }

    /** Promise 33: "What 0: HOUSES": 0 to 7, those on the ROAD and cats, too. */
    private static void countHouses() {
        for (int many = 0; many <= 7; many++) {
            e.due("P33 houses", Checks.of(Edges.plain(many, 1, 0, 0)).count(0), many);
        }
        MangleTown x = Checks.of(Edges.FOUR);
        x.road(0);
        x.road(2);
        e.due("P33 houses, two on the road", x.count(0), 4);
    }

    /** Promise 33: "1: the gap, 2: price": the gap as it is now. */
    private static void countGapAndPrice() {
        MangleTown x = Checks.of(Edges.FOUR + "gap 19;price 99;");
        e.due("P33 the gap", x.count(1), 19);
        e.due("P33 price", x.count(2), 99);
        x.run();
        e.due("P33 the gap, wider", x.count(1), 20);
        x.undo();
        e.due("P33 the gap, undone", x.count(1), 19);
        e.due("P33 price 0", Checks.of("price 0;").count(2), 0);
    }

    /** Promise 33: "3: the fortnight, 4: its rain". */
    private static void countFortnightAndRain() {
        MangleTown x = Checks.of("rains 9 0 5;");
        int[] rain = {9, 0, 5, 9, 0, 5, 9};
        for (int i = 0; i < rain.length; i++) {
            e.due("P33 fortnight", x.count(3), i);
            e.due("P33 its rain", x.count(4), rain[i]);
            x.run();
        }
        x.undo();
        x.undo();
        e.due("P33 fortnight, undone", x.count(3), 5);
        e.due("P33 its rain, undone", x.count(4), 5);
    }

    /** Promise 33: "5: those on the ROAD, as bits": 0 to 127. */
    private static void countRoad() {
        MangleTown x = Checks.of(Edges.plain(7, 1, 0, 0));
        e.due("P33 nobody", x.count(5), 0);
        for (int h = 0; h < 7; h++) {
            x.road(h);
            e.due("P33 " + (h + 1) + " of them", x.count(5), (2 << h) - 1);
        }
    }

    /** Promise 33: "6: PINTS, 7: coins". */
    private static void countPintsAndCoins() {
        MangleTown x = Checks.of(Edges.plain(7, 9, 99, 0) + "price 99;rains 9;");
        int pints = 0;
        for (int i = 0; i < 7; i++) {
            pints = Math.min(999, pints + x.run());
            e.due("P33 pints", x.count(6), pints);
        }
        for (int i = 1; i <= 10; i++) {
            x.sell(99);
            e.due("P33 coins", x.count(7), i * 9801);
            e.due("P33 pints", x.count(6), 999 - 99 * i);
        }
    }

    /** Promise 33: "8: all wet together": 0 to 693, of those on the ROAD, too. */
    private static void countWet() {
        e.due("P33 none", Checks.of(Edges.plain(7, 1, 0, 0)).count(8), 0);
        MangleTown x = Checks.of(Edges.plain(7, 1, 99, 0));
        x.road(6);
        e.due("P33 all", x.count(8), 693);
    }

    /** Promise 33: "9: all that is PRINTED, together": 99 at most on each. */
    private static void countPrinted() {
        MangleTown x = Checks.of(Edges.plain(7, 1, 0, 9));
        for (int runs = 1; runs <= 12; runs++) {
            x.run();
            e.due("P33 printed", x.count(9), 6 * Math.min(99, 9 * runs));
        }
        x.road(3);
        e.due("P33 on one on the road, too", x.count(9), 594);
        x.put(6, 0);
        x.run();
        e.due("P33 the first is behind now", x.count(9), 603);
    }

    /** Promise 33: "10: lines of the YEARS": 0 to 40. */
    private static void countLines() {
        MangleTown x = new MangleTown();
        for (int lines : new int[] {1, 39, 40, 0}) {
            e.due("P4 read", Checks.years(x, "run;".repeat(lines)), 0);
            e.due("P33 lines", x.count(10), lines);
        }
    }

    /** Promise 33: "11: SEEN": 0 to 8. */
    private static void countSeen() {
        MangleTown x = Checks.of(Edges.FOUR);
        for (int i = 0; i <= 9; i++) {
            e.due("P33 seen", x.count(11), Math.min(8, i));
            x.see(0, 3);
        }
    }

    /** Promise 33: "12: PINTS HEARD (NONE: nothing)". */
    private static void countHeard() {
        MangleTown x = Checks.of(Edges.FOUR);
        e.due("P33 nothing", x.count(12), -1);
        x.hear(-1);
        e.due("P33 still nothing", x.count(12), -1);
        x.hear(0);
        e.due("P33 0", x.count(12), 0);
        x.hear(693);
        e.due("P33 693", x.count(12), 693);
        x.hear(694);
        e.due("P33 still 693", x.count(12), 693);
    }

    /** Promise 33: "13: what can be undone": 0 to 16. */
    private static void countUndone() {
        MangleTown x = Checks.of(Edges.FOUR);
        for (int i = 0; i <= 20; i++) {
            e.due("P33 what can be undone", x.count(13), Math.min(16, i));
            x.put(0, 0);
        }
        for (int i = 15; i >= 0; i--) {
            x.undo();
            e.due("P33 what can be undone", x.count(13), i);
        }
        x.undo();
        e.due("P33 nothing", x.count(13), 0);
    }

    /** Promise 33: "14: signs on the TAPE": 0 to 1,000. */
    private static void countSigns() {
        MangleTown x = new MangleTown();
        for (int i = 0; i < 45; i++) {
            e.due("P33 signs", x.count(14), Math.min(1000, 24 * i));
            Checks.feed(x, " ".repeat(24));
        }
        x.town();
        e.due("P33 none", x.count(14), 0);
    }

    /** Promise 33: what is counted stays as it is. */
    private static void countChangesNothing() {
        for (int what = 0; what <= 14; what++) {
            int asked = what;
            e.leaves("P33 count " + what, Edges.richWithTape().count(what), Edges::richWithTape, x -> x.count(asked));
        }
    }
}
