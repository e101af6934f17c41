/** Promises 15 to 20 and 31: years judged, rows asked for, how long till it runs, decades. */
public final class AskedTest {
    private static final Checks c = new Checks();
    private static final String FOUR = "house a stout thick 8 wet 20 ink 4;house b sharp thick 4 wet 9 ink 2;"
            + "house c cat thick 2 wet 6 ink 7;house d plain thick 6 wet 12 ink 1;";

    public static void main(String[] args) {
        judging();
        shunning();
        bestRows();
        arounds();
        tills();
        dries();
        decades();
        c.end();
    }

    private static void judge(MangleTown x, String years, int broken, int shunned, int coins) {
        c.due("P15 read " + years, Checks.years(x, years), 0);
        c.due("P15 can't be: " + years, x.judged(0), broken);
        c.due("P15 shunned: " + years, x.judged(1), shunned);
        c.due("P15 coins: " + years, x.judged(2), coins);
    }

    private static void judging() {
        MangleTown x = Checks.of(FOUR + "shuns d b;shuns b a;rains 0;price 2;");
        c.due("P15 no years", x.judged(0), -1);
        c.due("P15 no years", x.judged(1), -1);
        c.due("P15 no years", x.judged(2), 0);
        c.due("P15 below", x.judged(-1), -2);
        c.due("P15 beyond", x.judged(3), -2);
        judge(x, "", -1, -1, 0);
        judge(x, "run;", -1, 0, 0);
        judge(x, "put a 4;put a 3;", 0, -1, 0);
        judge(x, "put b 0;run;", -1, -1, 0);
        judge(x, "put b 0;road a;run;", -1, 2, 0);
        judge(x, "road b;run;road b;run;", -1, 3, 0);
        judge(x, "sell 1;run;sell 33;sell 1;put d 6;", 0, 1, 66);
        judge(x, "run;sell 33;sell 1;", 2, 0, 66);
        judge(x, "run;sell 34;sell 33;", 1, 0, 66);
        // From the beginning, whatever is done by hand, which stays as it is.
        x.put(1, 0);
        x.road(0);
        x.run();
        judge(x, "run;sell 33;", -1, 0, 66);
        c.due("P15 nothing is done", x.count(3), 1);
        c.due("P15 nothing is sold", x.count(7), 0);
        c.due("P15 nothing is kept", x.count(13), 3);
    }

    private static void shunning() {
        MangleTown x = Checks.of(FOUR + "shuns d b;shuns b a;shuns c b;shuns d c;");
        c.due("P16 b behind a, c and d behind b", x.shunned(), 3);
        x.road(1);
        c.due("P16 nobody behind b", x.shunned(), 0);
        x.road(1);
        x.put(1, 3);
        c.due("P16 b behind d; a cat is nobody's ahead", x.shunned(), 0);
        x.put(3, 0);
        x.put(1, 1);
        c.due("P16 c behind a", x.shunned(), 0);
        x.put(2, 2);
        c.due("P16 a cat behind b", x.shunned(), 1);
        c.due("P16 nobody", new MangleTown().shunned(), 0);
    }

    private static void best(String call, MangleTown x, int total, int... row) {
        c.due(call + ", how much", x.best(-1), total);
        for (int i = 0; i < row.length; i++) {
            c.due(call + ", place " + i, x.best(i), row[i]);
        }
        c.due(call + ", beyond", x.best(row.length), -2);
        c.due(call + ", below", x.best(-2), -2);
    }

    private static void bestRows() {
        best("P17 nobody", new MangleTown(), 0);
        MangleTown x = Checks.of(FOUR);
        // The inkiest last: b 2 and d 1 print, a does not.
        best("P17 by ink", x, 3, 1, 2, 3, 0);
        x.road(0);
        best("P17 one on the road", x, 1, 2, 3, 1, 0);
        x.road(3);
        best("P17 two on the road, by numbers", x, 0, 1, 2, 0, 3);
        x.road(1);
        x.road(2);
        best("P17 all on the road", x, 0, 0, 1, 2, 3);
        best("P17 not shunned", Checks.of(FOUR + "shuns a d;shuns d b;"), 3, 2, 3, 1, 0);
        best("P17 not shunned, though more is printed", Checks.of(FOUR + "shuns a b;shuns a d;shuns d b;"),
                5, 0, 2, 3, 1);
        String all = "shuns a b;shuns a d;shuns b a;shuns b d;shuns d a;shuns d b;";
        best("P17 shunned whatever the row", Checks.of(FOUR + all), 3, 1, 2, 3, 0);
        best("P17 of equal ones the first", Checks.of(FOUR + "prints 2;"), 4, 0, 1, 2, 3);
        best("P17 by its own wet", Checks.of(FOUR + "prints (damp=20)*7;"), 0, 0, 1, 2, 3);
        best("P17 a cat that shuns", Checks.of(FOUR + "shuns c b;shuns c d;"), 3, 1, 3, 0, 2);
        best("P17 one cat", Checks.of("house k cat thick 1 wet 0 ink 9;house m cat thick 1 wet 0 ink 9;"), 0, 0, 1);
    }

    private static void around(String call, String town, int want) {
        c.due(call, Checks.of(town).around(), want);
    }

    private static void arounds() {
        String two = "house a plain thick 1 wet 0 ink 0;house b plain thick 1 wet 0 ink 0;";
        String three = two + "house e plain thick 1 wet 0 ink 0;";
        around("P18 nobody", "", 0);
        around("P18 no shuns", three, 0);
        around("P18 one way", two + "shuns a b;", 0);
        around("P18 both ways", two + "shuns a b;shuns b a;", 1);
        around("P18 all of all", three + "shuns a b;shuns b a;shuns a e;shuns e a;shuns b e;shuns e b;", 3);
        around("P18 the third shuns and is shunned", three + "shuns a e;shuns e a;shuns b e;shuns e b;", 4);
        String cat = two + "house k cat thick 1 wet 0 ink 0;";
        around("P18 a cat between", cat + "shuns k b;shuns a b;", 0);
        around("P18 a cat that shuns both and one that shuns all", cat + "house m cat thick 1 wet 0 ink 0;"
                + "shuns k a;shuns k b;shuns m b;shuns b a;", 0);
        around("P18 a cat goes first", cat + "shuns k a;shuns k b;", 0);
        around("P18 nobody is behind a cat", cat + "shuns a k;shuns b k;", 0);
        MangleTown x = Checks.of(three + "shuns a b;shuns b a;shuns a e;shuns e a;shuns b e;shuns e b;");
        x.road(0);
        c.due("P18 one on the road already", x.around(), 2);
        x.road(1);
        c.due("P18 two on the road already", x.around(), 0);
    }

    private static void tills() {
        MangleTown x = Checks.of("house a plain thick 1 wet 10 ink 0;house b plain thick 1 wet 4 ink 0;"
                + "rains 3 0;presses 1;");
        c.due("P19 now", x.till(14), 0);
        // Each run takes 1 of each; every other one brings 3 to each: 14, 18, 16, 20, 18, 22.
        c.due("P19 18", x.till(18), 1);
        c.due("P19 19", x.till(19), 3);
        c.due("P19 21", x.till(21), 5);
        c.due("P19 0", x.till(0), -1);
        c.due("P19 694", x.till(694), -1);
        c.due("P19 not within 99", x.till(693), -1);
        c.due("P19 114 (14 + 4 + 2 * 48)", x.till(114), 97);
        c.due("P19 116 (14 + 4 + 2 * 49)", x.till(116), 99);
        c.due("P19 117", x.till(117), -1);
        c.due("P19 1", x.till(1), 0);
        MangleTown slow = Checks.of("house a plain thick 1 wet 0 ink 0;rains 1 1 1 1 1 1 1 1 1 1 1 0;presses 0;");
        c.due("P19 99 runs", slow.till(91), 99);
        c.due("P19 100 runs are too many", slow.till(92), -1);
        StringBuilder full = new StringBuilder();
        for (char n = 'a'; n <= 'g'; n++) {
            full.append("house ").append(n).append(" cat thick 9 wet 99 ink 0;");
        }
        c.due("P19 693", Checks.of(full.toString()).till(693), 0);
        c.due("P19 nothing is done", x.count(3), 0);
        x.road(1);
        c.due("P19 on the road it rains, too", x.till(19), 1);
        c.due("P19 nobody", new MangleTown().till(1), -1);
    }

    private static void dries() {
        MangleTown x = Checks.of("house a plain thick 1 wet 90 ink 0;house b plain thick 1 wet 40 ink 0;"
                + "rains 0;presses 1;");
        c.due("P20 now", x.dry(40), 0);
        c.due("P20 one", x.dry(39), 1);
        c.due("P20 none", x.dry(0), 40);
        c.due("P20 below", x.dry(-1), -1);
        c.due("P20 100", x.dry(100), -1);
        x.road(1);
        c.due("P20 who goes", x.dry(40), 50);
        x.road(0);
        c.due("P20 nobody goes", x.dry(99), -1);
        c.due("P20 nobody", new MangleTown().dry(99), -1);
        c.due("P20 not within 99", Checks.of("house a plain thick 1 wet 9 ink 0;").dry(0), -1);
        c.due("P20 99 runs", Checks.of("house a plain thick 1 wet 99 ink 0;rains 0;presses 1;").dry(0), 99);
        MangleTown slow = Checks.of("house a plain thick 1 wet 99 ink 0;rains 0 0 0 0 0 0 0 0 0 0 0 1;presses 1;");
        c.due("P20 99 runs, 8 of them for nothing", slow.dry(8), 99);
        c.due("P20 100 runs are too many", slow.dry(7), -1);
        c.due("P20 99 is enough", slow.dry(99), 0);
        c.due("P20 nothing is done", x.count(3), 0);
    }

    /** Two houses by hand: the draws of seed 1 worked out here again, in plain steps. */
    private static void decades() {
        MangleTown x = Checks.of("house a plain thick 9 wet 40 ink 3;house b stout thick 9 wet 30 ink 5;price 2;");
        MangleTown y = Checks.of("house a plain thick 9 wet 40 ink 3;house b stout thick 9 wet 30 ink 5;price 2;");
        long g = 1;
        int pints = 0;
        for (int f = 1; f <= 9; f++) {
            g = (g * 1103515245L + 12345L) % 2147483648L;
            int house = (int) (g / 65536 % 2);
            g = (g * 1103515245L + 12345L) % 2147483648L;
            y.put(house, (int) (g / 65536 % 2));
            g = (g * 1103515245L + 12345L) % 2147483648L;
            if (g / 65536 % 4 == 0) {
                y.road(house);
            }
            pints += y.run();
            y.sell(9);
            c.due("P31 pints " + f, x.decades(1, f, 0), pints);
            c.due("P31 printed " + f, x.decades(1, f, 1), y.count(9));
            c.due("P31 coins " + f, x.decades(1, f, 2), y.count(7));
        }
        c.due("P31 all is as ahead", x.count(3), 0);
        c.due("P31 nothing to undo", x.count(13), 0);
        c.due("P31 seed below", x.decades(-1, 1, 0), -1);
        c.due("P31 seed beyond", x.decades(10000, 1, 0), -1);
        c.due("P31 no fortnights", x.decades(1, 0, 0), -1);
        c.due("P31 100 fortnights", x.decades(1, 100, 0), -1);
        c.due("P31 what below", x.decades(1, 1, -1), -1);
        c.due("P31 what beyond", x.decades(1, 1, 3), -1);
        c.due("P31 nobody", new MangleTown().decades(9999, 99, 2), 0);
        // From now on: pints that are there are sold, coins that are there do not count.
        MangleTown z = Checks.of("house a plain thick 9 wet 40 ink 3;price 2;presses 5;rains 0;");
        z.run();
        z.run();
        z.sell(1);
        c.due("P31 coins more", z.decades(0, 1, 2), 18);
        MangleTown many = Checks.of("house a plain thick 9 wet 99 ink 9;house b plain thick 9 wet 99 ink 9;");
        c.due("P31 printed as it came, more than 99", many.decades(7, 99, 1) > 198 ? 1 : 0, 1);
    }
}
