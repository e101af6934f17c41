/** Promises 5 to 14, 32 and 33: what is done by hand, undone, marked, counted. */
public final class HandTest {
    private static final Checks c = new Checks();
    private static final String FOUR = "house a stout thick 8 wet 20 ink 4;house b sharp thick 4 wet 9 ink 2;"
            + "house c cat thick 2 wet 6 ink 7;house d plain thick 6 wet 12 ink 1;";

    public static void main(String[] args) {
        houses();
        aheadOf();
        pressedAndBlots();
        putting();
        running();
        runningByLaws();
        bounds();
        seven();
        selling();
        undoing();
        marking();
        counting();
        c.end();
    }

    private static void row(String call, MangleTown x, int... want) {
        for (int i = 0; i < want.length; i++) {
            c.due(call + ", place " + i, x.order(i), want[i]);
            c.due(call + ", place of " + want[i], x.house(want[i], 6), i);
        }
        c.due(call + ", beyond", x.order(want.length), -1);
        c.due(call + ", below", x.order(-1), -1);
    }

    private static void houses() {
        MangleTown x = Checks.of(FOUR);
        int[][] want = {{1, 8, 20, 4, 0, 0, 0}, {2, 4, 9, 2, 0, 0, 1}, {3, 2, 6, 7, 0, 0, 2}, {0, 6, 12, 1, 0, 0, 3}};
        for (int h = 0; h < 4; h++) {
            for (int w = 0; w < 7; w++) {
                c.due("P5 house " + h + " " + w, x.house(h, w), want[h][w]);
            }
        }
        c.due("P5 what -1", x.house(0, -1), -1);
        c.due("P5 what 7", x.house(0, 7), -1);
        c.due("P5 house -1", x.house(-1, 0), -1);
        c.due("P5 house 4", x.house(4, 0), -1);
        x.road(2);
        c.due("P5 on the road", x.house(2, 5), 1);
        row("P6 as told", x, 0, 1, 2, 3);
    }

    private static void aheadOf() {
        MangleTown x = Checks.of(FOUR);
        c.due("P7 first", x.ahead(0), -1);
        c.due("P7 second", x.ahead(1), 0);
        c.due("P7 of a cat", x.ahead(2), 1);
        c.due("P7 past a cat", x.ahead(3), 1);
        c.due("P7 none such", x.ahead(4), -1);
        c.due("P7 below", x.ahead(-1), -1);
        x.road(1);
        c.due("P7 past the road", x.ahead(3), 0);
        c.due("P7 on the road", x.ahead(1), -1);
        x.put(2, 0);
        c.due("P7 only a cat ahead", x.ahead(0), -1);
    }

    private static void pressedAndBlots() {
        MangleTown x = Checks.of(FOUR);
        int[] out = {20, 4, 3, 12};
        for (int h = 0; h < 4; h++) {
            c.due("P8 pressed " + h, x.pressed(h), out[h]);
        }
        c.due("P8 none such", x.pressed(4), -1);
        c.due("P8 below", x.pressed(-1), -1);
        x.road(0);
        c.due("P8 on the road, too", x.pressed(0), 20);
        c.due("P9 ink", x.blot(0, 1), 4);
        c.due("P9 ink of the other", x.blot(1, 0), 2);
        c.due("P9 on a cat", x.blot(0, 2), 0);
        c.due("P9 of a cat", x.blot(2, 0), -1);
        c.due("P9 the same", x.blot(3, 3), -1);
        c.due("P9 none such", x.blot(4, 0), -1);
        c.due("P9 none such", x.blot(0, 4), -1);
        c.due("P9 below", x.blot(0, -1), -1);
        MangleTown y = Checks.of(FOUR + "gap 3;prints black*100+wall-wide-damp+between;");
        c.due("P9 9 at most", y.blot(0, 1), 9);
        MangleTown z = Checks.of(FOUR + "gap 3;prints black+wall-wide-damp+between;");
        c.due("P9 4+8-4-9+3", z.blot(0, 1), 2);
        c.due("P9 0 at least", z.blot(1, 0), 0);
    }

    private static void putting() {
        MangleTown x = Checks.of(FOUR);
        c.due("P10 to the end", x.put(0, 3), true);
        row("P10 to the end", x, 1, 2, 3, 0);
        c.due("P10 to the front", x.put(3, 0), true);
        row("P10 to the front", x, 3, 1, 2, 0);
        c.due("P10 to the middle", x.put(0, 1), true);
        row("P10 to the middle", x, 3, 0, 1, 2);
        c.due("P10 where it is", x.put(1, 2), true);
        row("P10 where it is", x, 3, 0, 1, 2);
        c.due("P10 can be undone each", x.count(13), 4);
        c.due("P10 beyond", x.put(0, 4), false);
        c.due("P10 below", x.put(0, -1), false);
        c.due("P10 none such", x.put(4, 0), false);
        c.due("P10 nobody", x.put(-1, 0), false);
        c.due("P10 wrong ones are not kept", x.count(13), 4);
        c.due("P11 road", x.road(2), true);
        c.due("P11 bits", x.count(5), 4);
        c.due("P11 another", x.road(0), true);
        c.due("P11 bits", x.count(5), 5);
        c.due("P11 no more", x.road(2), true);
        c.due("P11 bits", x.count(5), 1);
        c.due("P11 none such", x.road(4), false);
        c.due("P11 below", x.road(-1), false);
        row("P11 the order stays", x, 3, 0, 1, 2);
    }

    private static void state(String call, MangleTown x, int what, int... want) {
        for (int h = 0; h < want.length; h++) {
            c.due(call + " of " + h, x.house(h, what), want[h]);
        }
    }

    private static void running() {
        MangleTown x = Checks.of(FOUR + "rains 2 0 7;");
        c.due("P12 20+4+3+6 (the gap is 6 for the last)", x.run(), 20 + 4 + 3 + 6);
        state("P12 thick", x, 1, 7, 4, 2, 6);
        state("P12 wet", x, 2, 2, 7, 5, 8);
        state("P12 printed", x, 4, 0, 4, 0, 2);
        c.due("P12 gap", x.count(1), 6);
        c.due("P12 fortnight", x.count(3), 1);
        c.due("P12 its rain", x.count(4), 0);
        c.due("P12 pints", x.count(6), 33);
        x.road(0);
        c.due("P12 without one", x.run(), 3 + 2 + 4);
        state("P12 thicker on the road", x, 1, 8, 4, 2, 6);
        state("P12 no rain", x, 2, 2, 4, 3, 4);
        state("P12 printed", x, 4, 0, 4, 0, 4);
        c.due("P12 rain", x.count(4), 7);
        x.run();
        c.due("P12 again from the first rain", x.count(4), 2);
    }

    private static void runningByLaws() {
        MangleTown x = Checks.of("house a stout thick 9 wet 50 ink 1;house b sharp thick 5 wet 40 ink 2;"
                + "house s stout thick 6 wet 30 ink 3;gap 5;rains 0;presses between;prints damp-wall-between-20;");
        c.due("P12 5+5+6", x.run(), 16);
        // a is 8 thick by then: 40-8-5-20; b makes the gap 6: 30-5-6-20.
        state("P12 printed", x, 4, 0, 7, 0);
        state("P12 wet", x, 2, 45, 35, 24);
        state("P12 a stout one as thick as the gap then stays", x, 1, 8, 5, 6);
    }

    private static void bounds() {
        MangleTown x = Checks.of("house a sharp thick 20 wet 99 ink 9;house b plain thick 20 wet 99 ink 9;"
                + "gap 19;rains 9;presses 0;");
        x.road(0);
        x.run();
        c.due("P12 wet 99 at most", x.house(1, 2), 99);
        c.due("P12 thick 20 at most", x.house(0, 1), 20);
        x.road(0);
        x.run();
        x.run();
        c.due("P12 gap 20 at most", x.count(1), 20);
        for (int i = 0; i < 12; i++) {
            x.run();
        }
        c.due("P12 printed 99 at most", x.house(1, 4), 99);
        StringBuilder many = new StringBuilder();
        for (char n = 'a'; n <= 'g'; n++) {
            many.append("house ").append(n).append(" plain thick 9 wet 99 ink 0;");
        }
        MangleTown y = Checks.of(many + "rains 9;");
        c.due("P12 all", y.run(), 693);
        for (int i = 1; i <= 4; i++) {
            c.due("P12 63 more", y.run(), 63);
        }
        c.due("P12 pints", y.count(6), 945);
        c.due("P12 more than there is room for, too", y.run(), 63);
        c.due("P12 pints 999 at most", y.count(6), 999);
        MangleTown z = Checks.of("house a stout thick 2 wet 9 ink 0;gap 1;");
        z.run();
        z.run();
        c.due("P12 not thinner than the gap", z.house(0, 1), 1);
        MangleTown none = new MangleTown();
        c.due("P12 nobody", none.run(), 0);
        c.due("P12 the next fortnight", none.count(3), 1);
    }

    /** Rows are full with seven houses: every call must keep within them. */
    private static void seven() {
        StringBuilder many = new StringBuilder();
        for (char n = 'a'; n <= 'g'; n++) {
            many.append("house ").append(n).append(" plain thick 2 wet 8 ink 1;");
        }
        MangleTown x = Checks.of(many + "shuns g a;price 1;");
        c.due("P10 first to last", x.put(0, 6), true);
        row("P10 seven", x, 1, 2, 3, 4, 5, 6, 0);
        c.due("P10 last to first", x.put(0, 0), true);
        row("P10 seven", x, 0, 1, 2, 3, 4, 5, 6);
        c.due("P7 the last", x.ahead(6), 5);
        c.due("P16 none", x.shunned(), 0);
        c.due("P17 one's ink for each but one", x.best(-1), 6);
        c.due("P17 the last", x.best(6), 6);
        c.due("P18 none", x.around(), 0);
        c.due("P19 now", x.till(56), 0);
        c.due("P20 one run", x.dry(5), 1);
        c.due("P22 all", x.sets(0), 128);
        c.due("P22 in some", x.sets(2), 127);
        c.due("P23 the first", x.look(), 0);
        c.due("P26 the last", x.first(6), 6);
        c.due("P27 the first two", x.ask(), 1);
        c.due("P28 2*142", x.share(6), 284);
        c.due("P29 the second", x.pin(9, 2, 0), 1);
        c.due("P12 4 of each", x.run(), 28);
        c.due("P9 on all but the first", x.count(9), 6);
        c.due("P33 wet", x.count(8), 35);
        c.due("P31 one fortnight", x.decades(0, 1, 0) > 0, true);
    }

    private static void selling() {
        MangleTown x = Checks.of("house a plain thick 9 wet 50 ink 0;price 7;rains 0;");
        c.due("P13 no pints", x.sell(1), -1);
        x.run();
        c.due("P13 too many", x.sell(51), -1);
        c.due("P13 0", x.sell(0), -1);
        c.due("P13 below", x.sell(-1), -1);
        c.due("P13 100", x.sell(100), -1);
        c.due("P13 wrong ones are not kept", x.count(13), 1);
        c.due("P13 some", x.sell(10), 70);
        c.due("P13 all", x.sell(40), 350);
        c.due("P13 pints", x.count(6), 0);
        c.due("P13 coins", x.count(7), 350);
        MangleTown free = Checks.of("house a plain thick 9 wet 50 ink 0;price 0;");
        free.run();
        c.due("P13 for nothing", free.sell(9), 0);
        c.due("P13 pints", free.count(6), 41);
        MangleTown much = Checks.of("house a plain thick 9 wet 99 ink 0;house b plain thick 9 wet 99 ink 0;price 99;");
        much.run();
        c.due("P13 99 at most", much.sell(100), -1);
        c.due("P13 99", much.sell(99), 9801);
    }

    private static void undoing() {
        MangleTown x = Checks.of(FOUR + "rains 2 0;");
        x.put(0, 3);
        x.road(1);
        x.run();
        x.sell(5);
        c.due("P14 four", x.count(13), 4);
        c.due("P14 sell undone", x.undo(), true);
        c.due("P14 coins", x.count(7), 0);
        c.due("P14 run undone", x.undo(), true);
        state("P14 wet", x, 2, 20, 9, 6, 12);
        state("P14 thick", x, 1, 8, 4, 2, 6);
        state("P14 printed", x, 4, 0, 0, 0, 0);
        c.due("P14 gap", x.count(1), 5);
        c.due("P14 fortnight", x.count(3), 0);
        c.due("P14 pints", x.count(6), 0);
        c.due("P14 road undone", x.undo(), true);
        c.due("P14 road", x.count(5), 0);
        c.due("P14 put undone", x.undo(), true);
        row("P14 as told", x, 0, 1, 2, 3);
        c.due("P14 nothing", x.undo(), false);
        for (int i = 0; i < 20; i++) {
            x.run();
        }
        c.due("P14 16 at most", x.count(13), 16);
        x.hear(5);
        x.see(0, 1);
        Checks.years(x, "run;");
        for (int i = 0; i < 16; i++) {
            c.due("P14 back", x.undo(), true);
            c.due("P14 fortnight", x.count(3), 19 - i);
        }
        c.due("P14 no more", x.undo(), false);
        c.due("P14 heard stays", x.count(12), 5);
        c.due("P14 seen stays", x.count(11), 1);
        c.due("P14 years stay", x.count(10), 1);
    }

    private static void marking() {
        MangleTown x = Checks.of(FOUR);
        c.due("P32 below", x.mark(-1, false), false);
        c.due("P32 beyond", x.mark(4, false), false);
        c.due("P32 beyond, back", x.mark(4, true), false);
        c.due("P32 nothing on it", x.mark(3, true), false);
        x.put(0, 3);
        x.hear(7);
        x.see(1, 2);
        Checks.years(x, "run;road a;");
        c.due("P32 laid", x.mark(3, false), true);
        c.due("P32 undo stays when it is laid", x.count(13), 1);
        x.run();
        x.road(3);
        x.hear(8);
        x.see(2, 3);
        Checks.years(x, "run;");
        c.due("P32 another", x.mark(0, false), true);
        c.due("P32 back", x.mark(3, true), true);
        row("P32 order", x, 1, 2, 3, 0);
        int[] want = {4, 5, 3, 0, 1, 0, 0, 0, 47, 0, 2, 1, 7, 0, 0};
        for (int i = 0; i < want.length; i++) {
            c.due("P32 back, count " + i, x.count(i), want[i]);
        }
        c.due("P32 nothing can be undone", x.undo(), false);
        x.run();
        c.due("P32 back again", x.mark(3, true), true);
        c.due("P32 fortnight", x.count(3), 0);
        c.due("P32 the other one", x.mark(0, true), true);
        c.due("P32 fortnight", x.count(3), 1);
        c.due("P32 seen", x.count(11), 2);
        c.due("P32 heard", x.count(12), 8);
        c.due("P32 road", x.count(5), 8);
        c.due("P32 laid anew", x.mark(3, false), true);
        x.mark(3, true);
        c.due("P32 fortnight", x.count(3), 1);
        MangleTown y = Checks.of(FOUR);
        y.mark(1, false);
        y.feed(0x61, 0, 0);
        y.hear(1);
        y.mark(1, true);
        c.due("P32 nothing heard", y.count(12), -1);
        c.due("P32 the tape stays", y.count(14), 1);
    }

    private static void counting() {
        MangleTown x = Checks.of(FOUR + "price 9;rains 3 8;gap 12;");
        int[] want = {4, 12, 9, 0, 3, 0, 0, 0, 47, 0, 0, 0, -1, 0, 0};
        for (int i = 0; i < want.length; i++) {
            c.due("P33 count " + i, x.count(i), want[i]);
        }
        c.due("P33 below", x.count(-1), -1);
        c.due("P33 beyond", x.count(15), -1);
        x.road(3);
        x.put(0, 2);
        x.run();
        x.sell(3);
        x.hear(0);
        x.see(0, 3);
        Checks.years(x, "run;sell 2;");
        x.feed(0x6161, 0, 0);
        // b, c, a go: 4+3+10 come; on a: 2 of b's ink.
        int[] then = {4, 13, 9, 1, 8, 8, 14, 27, 42, 2, 2, 1, 0, 4, 2};
        for (int i = 0; i < then.length; i++) {
            c.due("P33 then, count " + i, x.count(i), then[i]);
        }
    }
}
