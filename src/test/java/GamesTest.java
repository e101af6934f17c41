/** Promises 28 to 30: shares, the pin, bids at rest. */
public final class GamesTest {
    private static final Checks c = new Checks();
    private static final String FOUR = "house a stout thick 8 wet 20 ink 4;house b sharp thick 4 wet 9 ink 2;"
            + "house c cat thick 2 wet 6 ink 7;house d plain thick 6 wet 12 ink 1;";

    public static void main(String[] args) {
        shares();
        pins();
        bids();
        c.end();
    }

    private static void shares() {
        MangleTown x = Checks.of(FOUR);
        c.due("P28 2*250+2*333+2*500+2*1000", x.share(0), 4166);
        c.due("P28 2*250+2*333", x.share(1), 1166);
        c.due("P28 2*250", x.share(2), 500);
        c.due("P28 2*250+2*333+2*500", x.share(3), 2166);
        c.due("P28 none such", x.share(4), -1);
        c.due("P28 below", x.share(-1), -1);
        x.road(0);
        c.due("P28 does not go", x.share(0), -1);
        c.due("P28 2*333+2*500+2*1000", x.share(3), 3666);
        x.road(1);
        x.road(2);
        c.due("P28 alone", x.share(3), 6000);
        StringBuilder seven = new StringBuilder();
        for (char n = 'a'; n <= 'g'; n++) {
            seven.append("house ").append(n).append(" plain thick 20 wet 0 ink 0;");
        }
        c.due("P28 20*142, each cut", Checks.of(seven.toString()).share(6), 2840);
        c.due("P28 nobody", new MangleTown().share(0), -1);
    }

    private static void pins() {
        MangleTown x = Checks.of(FOUR);
        // 8, 4, 2, 6 of 20; by a half each time: a, d, a (4 as b), b (4), d (3), ...
        int[] searched = {0, 3, 0, 1, 3, 0, 1, 2};
        int[] chance = {200000, 350000, 450000, 550000, 625000, 675000, 725000, 775000};
        for (int t = 1; t <= 8; t++) {
            c.due("P29 searched " + t, x.pin(5, t, 0), searched[t - 1]);
            c.due("P29 chance " + t, x.pin(5, t, 1), chance[t - 1]);
        }
        c.due("P29 never found: all are equal", x.pin(0, 8, 1), 0);
        MangleTown thin = Checks.of("house a cat thick 1 wet 0 ink 0;house b cat thick 9 wet 0 ink 0;");
        c.due("P29 never found: the first", thin.pin(0, 1, 0), 0);
        c.due("P29 surely found: the second", thin.pin(10, 1, 0), 1);
        c.due("P29 surely found: then the first", thin.pin(10, 2, 0), 0);
        c.due("P29 surely found in both", thin.pin(10, 2, 1), 1000000);
        c.due("P29 nothing is left: the first", thin.pin(10, 8, 0), 0);
        c.due("P29 no chance more", thin.pin(10, 8, 1), 1000000);
        MangleTown three = Checks.of("house a cat thick 1 wet 0 ink 0;house b cat thick 1 wet 0 ink 0;"
                + "house e cat thick 1 wet 0 ink 0;");
        c.due("P29 each time's own is cut", three.pin(10, 3, 1), 999999);
        three.road(0);
        c.due("P29 only those that go", three.pin(10, 1, 0), 1);
        c.due("P29 only their thickness", three.pin(10, 1, 1), 500000);
        MangleTown alone = Checks.of("house a cat thick 7 wet 0 ink 0;");
        c.due("P29 alone", alone.pin(10, 1, 1), 1000000);
        c.due("P29 alone, by nine of ten", alone.pin(9, 8, 1), 999999);
        c.due("P29 alone, by one of ten", alone.pin(1, 8, 1), 569532);
        c.noSuch("P29 odds below", () -> x.pin(-1, 1, 0));
        c.noSuch("P29 odds beyond", () -> x.pin(11, 1, 0));
        c.noSuch("P29 times below", () -> x.pin(5, 0, 0));
        c.noSuch("P29 times beyond", () -> x.pin(5, 9, 0));
        c.noSuch("P29 what below", () -> x.pin(5, 1, -1));
        c.noSuch("P29 what beyond", () -> x.pin(5, 1, 2));
        c.noSuch("P29 nobody", () -> new MangleTown().pin(5, 1, 0));
        thin.road(0);
        thin.road(1);
        c.noSuch("P29 nobody goes", () -> thin.pin(5, 1, 0));
        c.due("P29 nothing is done", x.house(0, 1), 8);
    }

    private static void bids() {
        MangleTown x = new MangleTown();
        c.due("P30 how many, 9 and 0", x.rests(9, 0, -1), 56);
        c.due("P30 the first of 9 and 0", x.rests(9, 0, 0), 0);
        // 0 against 9: the other one has it for nothing, and the first would have to pay all it is worth.
        c.due("P30 the second of 9 and 0", x.rests(9, 0, 1), 9);
        c.due("P30 the third of 9 and 0", x.rests(9, 0, 2), 10);
        c.due("P30 the last of 9 and 0", x.rests(9, 0, 55), 99);
        int last = -1;
        int many = x.rests(3, 5, -1);
        for (int i = 0; i < many; i++) {
            int bids = x.rests(3, 5, i);
            c.due("P30 the least first", bids > last ? 1 : 0, 1);
            last = bids;
        }
        c.noSuch("P30 behind the last", () -> x.rests(3, 5, many));
        c.noSuch("P30 what below", () -> x.rests(3, 5, -2));
        c.noSuch("P30 one below", () -> x.rests(-1, 5, -1));
        c.noSuch("P30 one beyond", () -> x.rests(10, 5, -1));
        c.noSuch("P30 other below", () -> x.rests(5, -1, -1));
        c.noSuch("P30 other beyond", () -> x.rests(5, 10, -1));
        c.due("P30 both their worth is at rest", holds(x, 6, 4, 64), 1);
        c.due("P30 equal: the first has it", holds(x, 6, 4, 44), 1);
        c.due("P30 the other one would rather have it", holds(x, 6, 4, 30), 0);
        c.due("P30 the first would rather not", holds(x, 3, 9, 55), 0);
        c.due("P30 only by 9 would the other one get more", holds(x, 9, 9, 80), 0);
        c.due("P30 only by 0 would the first get more", holds(x, 0, 0, 11), 0);
    }

    private static int holds(MangleTown x, int one, int other, int bids) {
        int many = x.rests(one, other, -1);
        for (int i = 0; i < many; i++) {
            if (x.rests(one, other, i) == bids) {
                return 1;
            }
        }
        return 0;
    }
}
