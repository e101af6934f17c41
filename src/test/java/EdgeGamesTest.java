import java.math.BigInteger;
import java.util.Arrays;

/** Boundaries of promises 28 to 31: shares, the pin, bids at rest, decades. One test for each sentence. */
public final class EdgeGamesTest {
    private static final Edges e = new Edges();

    public static void main(String[] args) {
        shareOthers();
        shareDoesNotGo();
        shareEachWidth();
        shareCut();
        shareAsItIsNow();
        pinOdds();
        pinTimes();
        pinWhat();
        pinNobody();
        pinOddsOfThickness();
        pinEqualOnes();
        pinNoOdds();
        pinSure();
        pinCut();
        pinMostLikelyNow();
        pinThatGo();
        restsWorth();
        restsWhat();
        restsLast();
        restsOfNothing();
        restsOfAll();
        restsLeastFirst();
        restsNeitherMore();
        decadesSeeds();
        decadesFortnights();
        decadesWhat();
        decadesNobody();
        decadesAsAhead();
        decadesByHand();
        decadesPutAndRoad();
        decadesOfOne();
        decadesNinePints();
        decadesNoRoom();
        decadesAsItCame();
        decadesCoinsMore();
        e.end();
    }

    private static MangleTown thick(int... thicks) {
        StringBuilder town = new StringBuilder();
        for (int i = 0; i < thicks.length; i++) {
            town.append(Edges.house("" + (char) ('a' + i), "plain", thicks[i], 50, 0));
        }
        return Checks.of(town.toString());
    }

    private static void shares(String call, MangleTown x, int... want) {
        for (int h = 0; h < want.length; h++) {
            e.due(call + ", share of " + h, x.share(h), want[h]);
        }
    }

    /** Promise 28: "SHARES of a HOUSE; NONE: others". */
    private static void shareOthers() {
        e.due("P28 house 0", thick(1, 1, 1).share(0), 333);
        e.due("P28 house 2", thick(1, 1, 1).share(2), 333);
        for (int wrong : new int[] {-1, 4, 7, 32}) {
            e.leaves("P28 house " + wrong, -1, Edges::rich, x -> x.share(wrong));
        }
        for (int far : Edges.FAR_OFF) {
            e.leaves("P28 house " + far, -1, Edges::rich, x -> x.share(far));
        }
        e.due("P28 house 6 of seven", thick(1, 1, 1, 1, 1, 1, 1).share(6), 142);
        e.due("P28 house 7 of seven", thick(1, 1, 1, 1, 1, 1, 1).share(7), -1);
        e.leaves("P28 nobody", -1, MangleTown::new, x -> x.share(0));
    }

    /** Promise 28: "NONE: [..] it does not GO". */
    private static void shareDoesNotGo() {
        MangleTown x = thick(2, 2);
        shares("P28 both go", x, 1000, 1000);
        x.road(0);
        shares("P28 b goes", x, -1, 2000);
        x.road(1);
        shares("P28 nobody goes", x, -1, -1);
        e.leaves("P28 rich's inn", -1, Edges::rich, y -> y.share(1));
    }

    /** Terms: "a HOUSE pays for each width up to its own, alike with all that GO and are as thick". */
    private static void shareEachWidth() {
        shares("P28 alone", thick(1), 1000);
        shares("P28 alone, the thickest", thick(20), 20000);
        shares("P28 1 and 2", thick(1, 2), 500, 1500);
        shares("P28 2 and 1", thick(2, 1), 1500, 500);
        shares("P28 1 and 20", thick(1, 20), 500, 19500);
        shares("P28 4, 4, 2", thick(4, 4, 2), 1666, 1666, 666);
        MangleTown cats = Checks.of(Edges.house("k", "cat", 2, 0, 0) + Edges.house("a", "plain", 2, 0, 0));
        shares("P28 a cat pays, too", cats, 1000, 1000);
    }

    /** Terms: "in thousandths (each width's share is cut)". */
    private static void shareCut() {
        int[] cut = {1000, 500, 333, 250, 200, 166, 142};
        for (int many = 1; many <= 7; many++) {
            int[] all = new int[many];
            Arrays.fill(all, 20);
            MangleTown x = thick(all);
            e.due("P28 20 widths by " + many, x.share(many - 1), 20 * cut[many - 1]);
        }
        shares("P28 1 to 7", thick(1, 2, 3, 4, 5, 6, 7), 142, 308, 508, 758, 1091, 1591, 2591);
    }

    /** Terms: "SHARES in a gap as wide as the thickest of those that GO": by the thickness now. */
    private static void shareAsItIsNow() {
        MangleTown x = Checks.of(Edges.house("a", "stout", 7, 50, 0) + Edges.house("b", "plain", 6, 50, 0));
        shares("P28 7 and 6", x, 4000, 3000);
        x.run();
        shares("P28 6 and 6", x, 3000, 3000);
        x.road(0);
        x.run();
        x.road(0);
        shares("P28 7 and 6 again", x, 4000, 3000);
    }

    /** Promise 29: "A PIN by odds, times, what"; "by odds of ten (0 to 10)"; "NoSuchElementException: others". */
    private static void pinOdds() {
        e.due("P29 odds 0", thick(7).pin(0, 1, 1), 0);
        e.due("P29 odds 1", thick(7).pin(1, 1, 1), 100000);
        e.due("P29 odds 10", thick(7).pin(10, 1, 1), 1000000);
        for (int odds : new int[] {-1, 11, 20}) {
            for (int what = 0; what <= 1; what++) {
                int asked = what;
                e.leaves("P29 odds " + odds, Edges.NO_SUCH, Edges::richWithTape, x -> x.pin(odds, 1, asked));
            }
        }
        for (int far : Edges.FAR_OFF) {
            e.leaves("P29 odds " + far, Edges.NO_SUCH, Edges::rich, x -> x.pin(far, 1, 0));
        }
    }

    /** Terms: PIN "so many times (1 to 8)". */
    private static void pinTimes() {
        e.due("P29 1 time", thick(7).pin(5, 1, 1), 500000);
        e.due("P29 8 times", thick(7).pin(5, 8, 1), 996093);
        for (int times : new int[] {0, -1, 9}) {
            for (int what = 0; what <= 1; what++) {
                int asked = what;
                e.leaves("P29 times " + times, Edges.NO_SUCH, Edges::richWithTape, x -> x.pin(5, times, asked));
            }
        }
        for (int far : Edges.FAR_OFF) {
            e.leaves("P29 times " + far, Edges.NO_SUCH, Edges::rich, x -> x.pin(5, far, 0));
        }
    }

    /** Promise 29: "what 0: the HOUSE, 1: the chance. NoSuchElementException: others". */
    private static void pinWhat() {
        e.due("P29 what 0", thick(3, 7).pin(10, 1, 0), 1);
        e.due("P29 what 1", thick(3, 7).pin(10, 1, 1), 700000);
        for (int what : new int[] {-1, 2, 3}) {
            e.leaves("P29 what " + what, Edges.NO_SUCH, Edges::richWithTape, x -> x.pin(5, 1, what));
        }
        for (int far : Edges.FAR_OFF) {
            e.leaves("P29 what " + far, Edges.NO_SUCH, Edges::rich, x -> x.pin(5, 1, far));
            e.leaves("P29 all " + far, Edges.NO_SUCH, Edges::rich, x -> x.pin(far, far, far));
        }
    }

    /** Promise 29: "NoSuchElementException: [..] nobody GOES." */
    private static void pinNobody() {
        e.leaves("P29 nobody", Edges.NO_SUCH, MangleTown::new, x -> x.pin(5, 1, 0));
        e.leaves("P29 nobody, the chance", Edges.NO_SUCH, MangleTown::new, x -> x.pin(0, 1, 1));
        MangleTown x = thick(3, 7);
        x.road(0);
        e.due("P29 b goes", x.pin(5, 1, 0), 1);
        x.road(1);
        e.noSuch("P29 nobody goes", () -> x.pin(5, 1, 0));
        e.noSuch("P29 nobody goes, the chance", () -> x.pin(5, 1, 1));
        x.road(0);
        e.due("P29 a goes", x.pin(5, 1, 0), 0);
    }

    /** Terms: "A PIN is in one of the HOUSES that GO, by odds of their thickness": 1 and 20, too. */
    private static void pinOddsOfThickness() {
        e.due("P29 20 of 21", thick(1, 20).pin(10, 1, 1), 952380);
        e.due("P29 20 of 21, the house", thick(1, 20).pin(10, 1, 0), 1);
        e.due("P29 1 of 1", thick(1).pin(10, 1, 1), 1000000);
        e.due("P29 20 of 140", thick(20, 20, 20, 20, 20, 20, 20).pin(10, 1, 1), 142857);
        e.due("P29 1 of 121, the last search", thick(20, 20, 20, 20, 20, 20, 1).pin(10, 7, 0), 6);
    }

    /** Terms: PIN "(of equal ones the first)". */
    private static void pinEqualOnes() {
        MangleTown x = thick(4, 4, 8);
        // 8, then 4 of each: by halves.
        int[] searched = {2, 0, 1, 2, 0, 1, 2, 0};
        for (int times = 1; times <= 8; times++) {
            e.due("P29 search " + times, x.pin(5, times, 0), searched[times - 1]);
        }
    }

    /** Terms: PIN "by odds of ten (0 to 10)": by 0 it is found nowhere, so all are equal. */
    private static void pinNoOdds() {
        MangleTown x = thick(1, 20);
        for (int times = 1; times <= 8; times++) {
            e.due("P29 the first", x.pin(0, times, 0), 0);
            e.due("P29 no chance", x.pin(0, times, 1), 0);
        }
        x.road(0);
        e.due("P29 the first that goes", x.pin(0, 8, 0), 1);
    }

    /** Terms: PIN "by odds of ten (0 to 10)": by 10 it is surely found where it is; then all are equal. */
    private static void pinSure() {
        MangleTown x = thick(1, 3, 2);
        int[] searched = {1, 2, 0, 0, 0, 0, 0, 0};
        int[] chance = {500000, 833333, 999999, 999999, 999999, 999999, 999999, 999999};
        for (int times = 1; times <= 8; times++) {
            e.due("P29 searched " + times, x.pin(10, times, 0), searched[times - 1]);
            e.due("P29 chance " + times, x.pin(10, times, 1), chance[times - 1]);
        }
        MangleTown seven = thick(1, 1, 1, 1, 1, 1, 1);
        e.due("P29 the seventh", seven.pin(10, 7, 0), 6);
        e.due("P29 the eighth: nothing is left", seven.pin(10, 8, 0), 0);
        e.due("P29 seven times 142857", seven.pin(10, 8, 1), 999999);
    }

    /** Terms: PIN "in millionths (each time's own is cut)". */
    private static void pinCut() {
        // Of 3: 333333.3; of what is left 299999.99.. and so on: thirds of 1, .9, .81 ..
        MangleTown x = thick(1, 1, 1);
        e.due("P29 a third, cut", x.pin(10, 1, 1), 333333);
        e.due("P29 two thirds, each cut", x.pin(10, 2, 1), 666666);
        // By one of ten: 33333 three times, then 30000 three times, 27000 twice.
        int[] chance = {33333, 66666, 99999, 129999, 159999, 189999, 216999, 243999};
        for (int times = 1; times <= 8; times++) {
            e.due("P29 by one of ten " + times, x.pin(1, times, 1), chance[times - 1]);
        }
        // 900000, 90000, 9000 .. 0.9, 0.09: the last two are cut away.
        e.due("P29 by nine of ten, 6", thick(5).pin(9, 6, 1), 999999);
        e.due("P29 by nine of ten, 7", thick(5).pin(9, 7, 1), 999999);
        e.due("P29 by nine of ten, 8", thick(5).pin(9, 8, 1), 999999);
        // 700000, 210000, 63000, 18900, 5670, 1701, 510.3, 153.09.
        e.due("P29 by seven of ten, 7", thick(5).pin(7, 7, 1), 999781);
        e.due("P29 by seven of ten, 8", thick(5).pin(7, 8, 1), 999934);
    }

    /** Terms: PIN "the HOUSE is searched in which it is found most likely now [..], none found ahead". */
    private static void pinMostLikelyNow() {
        // 20, 15 by odds of 2: 20, 16, 15, 12.8, 12, 10.24, 9.6, 8.192.
        MangleTown x = thick(20, 15);
        int[] searched = {0, 0, 1, 0, 1, 0, 1, 0};
        for (int times = 1; times <= 8; times++) {
            e.due("P29 search " + times, x.pin(2, times, 0), searched[times - 1]);
        }
        // 10 and 9 by odds of 1: 10, then 9 of each, the first of them ahead.
        MangleTown y = thick(9, 10);
        int[] then = {1, 0, 1, 0, 1, 0, 1, 0};
        for (int times = 1; times <= 8; times++) {
            e.due("P29 of equal ones " + times, y.pin(1, times, 0), then[times - 1]);
        }
    }

    /** Terms: "A PIN is in one of the HOUSES that GO": by the thickness of these alone. */
    private static void pinThatGo() {
        MangleTown x = thick(6, 20, 4);
        x.road(1);
        e.due("P29 6 of 10", x.pin(10, 1, 1), 600000);
        e.due("P29 the first", x.pin(10, 1, 0), 0);
        e.due("P29 then the last", x.pin(10, 2, 0), 2);
        e.due("P29 none on the road", x.pin(10, 3, 0), 0);
    }

    /** Promise 30: "RESTS of BIDS by what it is worth to each": "(0 to 9)"; "NoSuchElementException: others". */
    private static void restsWorth() {
        MangleTown x = new MangleTown();
        e.due("P30 0 and 0", x.rests(0, 0, -1), 19);
        e.due("P30 9 and 9", x.rests(9, 9, -1), 19);
        e.due("P30 9 and 0", x.rests(9, 0, -1), 56);
        for (int wrong : new int[] {-1, 10}) {
            for (int what = -1; what <= 0; what++) {
                int asked = what;
                e.leaves("P30 one " + wrong, Edges.NO_SUCH, Edges::richWithTape, y -> y.rests(wrong, 5, asked));
                e.leaves("P30 other " + wrong, Edges.NO_SUCH, Edges::richWithTape, y -> y.rests(5, wrong, asked));
                e.leaves("P30 both " + wrong, Edges.NO_SUCH, Edges::rich, y -> y.rests(wrong, wrong, asked));
            }
        }
        for (int far : Edges.FAR_OFF) {
            e.leaves("P30 one " + far, Edges.NO_SUCH, Edges::rich, y -> y.rests(far, 5, -1));
            e.leaves("P30 other " + far, Edges.NO_SUCH, Edges::rich, y -> y.rests(5, far, -1));
        }
    }

    /** Promise 30: "what NONE: how many; i: the i-th [..]. NoSuchElementException: others, none such." */
    private static void restsWhat() {
        MangleTown x = new MangleTown();
        e.due("P30 NONE", x.rests(0, 0, MangleTown.NONE), 19);
        e.due("P30 0", x.rests(0, 0, 0), 0);
        for (int what : new int[] {-2, -3, 19, 20, 99, 100}) {
            e.leaves("P30 what " + what, Edges.NO_SUCH, Edges::richWithTape, y -> y.rests(0, 0, what));
        }
        for (int far : Edges.FAR_OFF) {
            e.leaves("P30 what " + far, Edges.NO_SUCH, Edges::rich, y -> y.rests(0, 0, far));
            e.leaves("P30 all " + far, Edges.NO_SUCH, Edges::rich, y -> y.rests(far, far, far));
        }
    }

    /** Promise 30: "none such": just behind the last, for all that it may be worth. */
    private static void restsLast() {
        MangleTown x = new MangleTown();
        for (int one = 0; one <= 9; one++) {
            for (int other = 0; other <= 9; other++) {
                int first = one;
                int second = other;
                int many = x.rests(one, other, -1);
                e.due("P30 there are some", many > 0, true);
                e.due("P30 the last is one", x.rests(one, other, many - 1) >= 0, true);
                e.noSuch("P30 behind the last", () -> x.rests(first, second, many));
            }
        }
    }

    /** Terms: BIDS: worth nothing to either: whoever bids, the other one bids 0, or 0 against any bid. */
    private static void restsOfNothing() {
        MangleTown x = new MangleTown();
        for (int i = 0; i < 19; i++) {
            e.due("P30 0 and 0, the " + i + "th", x.rests(0, 0, i), i < 10 ? i : (i - 9) * 10);
        }
    }

    /** Terms: BIDS: worth 9 to both: one of them bids 9. */
    private static void restsOfAll() {
        MangleTown x = new MangleTown();
        for (int i = 0; i < 19; i++) {
            e.due("P30 9 and 9, the " + i + "th", x.rests(9, 9, i), i < 9 ? i * 10 + 9 : 90 + i - 9);
        }
    }

    /** Promise 30: "10 * the first bid + the other one (the least first)". */
    private static void restsLeastFirst() {
        MangleTown x = new MangleTown();
        int last = -1;
        for (int i = 0; i < 56; i++) {
            int bids = x.rests(9, 0, i);
            e.due("P30 the " + i + "th is more", bids > last, true);
            last = bids;
        }
        e.due("P30 the last of 9 and 0", last, 99);
    }

    /** Terms: "RESTS: by which neither would get more by another bid", each by trying all. */
    private static void restsNeitherMore() {
        MangleTown x = new MangleTown();
        for (int[] worth : new int[][] {{0, 9}, {9, 0}, {5, 5}, {4, 5}, {5, 4}}) {
            int found = 0;
            for (int bids = 0; bids < 100; bids++) {
                if (atRest(worth[0], worth[1], bids / 10, bids % 10)) {
                    e.due("P30 " + worth[0] + " and " + worth[1], x.rests(worth[0], worth[1], found), bids);
                    found++;
                }
            }
            e.due("P30 how many", x.rests(worth[0], worth[1], -1), found);
        }
    }

    /** What is it worth to have it is against what the other one bids: to have it or not, as it can. */
    private static boolean atRest(int one, int other, int bid, int otherBid) {
        boolean firstHas = bid >= otherBid;
        boolean firstContent = firstHas ? one >= otherBid || otherBid == 0 : one <= otherBid;
        boolean otherContent = firstHas ? other <= bid || bid == 9 : other >= bid;
        return firstContent && otherContent;
    }

    /** Promise 31: "DECADES by a SEED (0 to 9999) [..]; NONE: others." */
    private static void decadesSeeds() {
        e.due("P31 seed 0", Edges.rich().decades(0, 9, 0) >= 0, true);
        e.due("P31 seed 9999", Edges.rich().decades(9999, 9, 0) >= 0, true);
        for (int seed : new int[] {-1, 10000}) {
            for (int what = 0; what <= 2; what++) {
                int asked = what;
                e.leaves("P31 seed " + seed, -1, Edges::richWithTape, x -> x.decades(seed, 9, asked));
            }
            e.leaves("P31 nobody, seed " + seed, -1, MangleTown::new, x -> x.decades(seed, 9, 0));
        }
        for (int far : Edges.FAR_OFF) {
            e.leaves("P31 seed " + far, -1, Edges::rich, x -> x.decades(far, 9, 0));
        }
    }

    /** Terms: "DECADES by a SEED of so many fortnights (1 to 99)". */
    private static void decadesFortnights() {
        e.due("P31 1", Edges.rich().decades(5, 1, 0) >= 0, true);
        e.due("P31 99", Edges.rich().decades(5, 99, 0) >= 0, true);
        for (int many : new int[] {0, -1, 100}) {
            for (int what = 0; what <= 2; what++) {
                int asked = what;
                e.leaves("P31 fortnights " + many, -1, Edges::richWithTape, x -> x.decades(5, many, asked));
            }
            e.leaves("P31 nobody, fortnights " + many, -1, MangleTown::new, x -> x.decades(5, many, 0));
        }
        for (int far : Edges.FAR_OFF) {
            e.leaves("P31 fortnights " + far, -1, Edges::rich, x -> x.decades(5, far, 0));
        }
    }

    /** Promise 31: "what 0: PINTS, 1: PRINTED, 2: coins; NONE: others." */
    private static void decadesWhat() {
        for (int what : new int[] {-1, -2, 3, 4}) {
            e.leaves("P31 what " + what, -1, Edges::richWithTape, x -> x.decades(5, 9, what));
            e.leaves("P31 nobody, what " + what, -1, MangleTown::new, x -> x.decades(5, 9, what));
        }
        for (int far : Edges.FAR_OFF) {
            e.leaves("P31 what " + far, -1, Edges::rich, x -> x.decades(5, 9, far));
            e.leaves("P31 all " + far, -1, Edges::rich, x -> x.decades(far, far, far));
        }
    }

    /** Terms: DECADES "if there are HOUSES": without any nothing comes. */
    private static void decadesNobody() {
        for (int what = 0; what <= 2; what++) {
            int asked = what;
            e.leaves("P31 nobody, " + what, 0, MangleTown::new, x -> x.decades(0, 1, asked));
            e.leaves("P31 nobody, 99 fortnights, " + what, 0, MangleTown::new, x -> x.decades(9999, 99, asked));
        }
    }

    /** Terms: DECADES "from now on (all is as ahead then)". */
    private static void decadesAsAhead() {
        for (int what = 0; what <= 2; what++) {
            int asked = what;
            int want = Edges.rich().decades(77, 99, what);
            e.leaves("P31 all is as ahead, " + what, want, Edges::richWithTape, x -> x.decades(77, 99, asked));
        }
    }

    /** Terms: "A DRAW below m: g becomes (g * 1103515245 + 12345) modulo 2147483648 [..]: it is g / 65536 [..]". */
    private static final class Draws {
        private BigInteger g;

        Draws(int seed) {
            g = BigInteger.valueOf(seed);
        }

        int below(int m) {
            g = g.multiply(BigInteger.valueOf(1103515245)).add(BigInteger.valueOf(12345))
                    .mod(BigInteger.valueOf(2147483648L));
            return g.divide(BigInteger.valueOf(65536)).mod(BigInteger.valueOf(m)).intValue();
        }
    }

    /** Two houses through so many fortnights by hand: pints, printed, coins. */
    private static int[] byHand(String town, int seed, int fortnights) {
        MangleTown x = Checks.of(town);
        Draws draws = new Draws(seed);
        int[] got = new int[3];
        boolean[] road = new boolean[2];
        for (int i = 0; i < fortnights; i++) {
            int house = draws.below(2);
            x.put(house, draws.below(2));
            if (draws.below(4) == 0) {
                x.road(house);
                road[house] = !road[house];
            }
            got[0] += x.run();
            got[1] += road[0] || road[1] ? 0 : 9;
            got[2] = Math.max(got[2], x.sell(9));
        }
        return got;
    }

    /** Terms: DECADES "each: [..] a DRAW below them, another one: that PUT; [..] then the RUN; then [..] SOLD". */
    private static void decadesByHand() {
        String town = Edges.house("a", "sharp", 9, 40, 3) + Edges.house("b", "stout", 20, 30, 5)
                + "price 2;prints 9;rains 9 0 5;";
        for (int seed : new int[] {0, 1, 1234, 9998, 9999}) {
            for (int fortnights : new int[] {1, 2, 98, 99}) {
                int[] want = byHand(town, seed, fortnights);
                for (int what = 0; what <= 2; what++) {
                    e.due("P31 seed " + seed + ", " + fortnights + ", what " + what,
                            Checks.of(town).decades(seed, fortnights, what), want[what]);
                }
            }
        }
    }

    /** So many fortnights of any town by hand, what was printed told by the houses: pints, printed, coins. */
    private static void byHandOf(String town, int seed, int fortnights) {
        MangleTown x = Checks.of(town);
        Draws draws = new Draws(seed);
        int houses = x.count(0);
        int pints = 0;
        int coins = 0;
        for (int i = 1; i <= fortnights; i++) {
            int house = draws.below(houses);
            x.put(house, draws.below(houses));
            if (draws.below(4) == 0) {
                x.road(house);
            }
            pints += x.run();
            coins = Math.max(coins, x.sell(9));
            String call = "P31 " + houses + " houses, seed " + seed + ", " + i;
            e.due(call + ", pints", Checks.of(town).decades(seed, i, 0), pints);
            e.due(call + ", printed", Checks.of(town).decades(seed, i, 1), x.count(9));
            e.due(call + ", coins", Checks.of(town).decades(seed, i, 2), coins);
        }
    }

    /** Terms: DECADES "a DRAW below them, another one: that PUT; a DRAW below 4: 0: the first DRAW's HOUSE's ROAD". */
    private static void decadesPutAndRoad() {
        String town = Edges.FOUR + Edges.house("e", "plain", 5, 77, 3) + Edges.house("f", "stout", 12, 66, 5)
                + Edges.house("g", "plain", 7, 88, 6) + "rains 7 1;";
        for (int seed = 0; seed < 20; seed++) {
            byHandOf(town, seed, 10);
            byHandOf(Edges.FOUR, 9999 - seed, 10);
        }
    }

    /** Terms: DECADES "a DRAW below them": of one house it is that one, and the draws are made all the same. */
    private static void decadesOfOne() {
        for (int seed = 0; seed < 20; seed++) {
            byHandOf(Edges.plain(1, 4, 60, 3) + "rains 5;", seed, 20);
        }
    }

    /** A seed by which one house goes in the first fortnight: its third draw below 4 is not 0. */
    private static int goingSeed() {
        for (int seed = 0; seed < 100; seed++) {
            Draws draws = new Draws(seed);
            draws.below(1);
            draws.below(1);
            if (draws.below(4) != 0) {
                return seed;
            }
        }
        throw new IllegalStateException();
    }

    /** Terms: DECADES "then, if there are 9 pints, 9 are SOLD". */
    private static void decadesNinePints() {
        int seed = goingSeed();
        int[] pressed = {8, 9, 10, 18, 27};
        int[] coins = {0, 9, 9, 9, 9};
        for (int i = 0; i < pressed.length; i++) {
            MangleTown x = Checks.of(Edges.plain(1, 9, 50, 0) + "price 1;presses " + pressed[i] + ";");
            e.due("P31 pints " + pressed[i], x.decades(seed, 1, 0), pressed[i]);
            e.due("P31 coins by " + pressed[i], x.decades(seed, 1, 2), coins[i]);
        }
    }

    /** Terms: DECADES "PINTS that came, together": more than there is room for, too. */
    private static void decadesNoRoom() {
        MangleTown x = Checks.of(Edges.plain(1, 9, 99, 0) + "rains 9;price 1;");
        MangleTown full = Checks.of(Edges.plain(7, 9, 99, 0) + "rains 9;price 1;");
        for (int i = 0; i < 6; i++) {
            full.run();
        }
        e.due("P33 full", full.count(6), 999);
        int[] came = new int[2];
        for (int i = 0; i < 2; i++) {
            came[i] = full.decades(3, 40, 0);
            e.due("P31 9 sold each fortnight", full.decades(3, 40, 2), 360);
            for (int sold = 0; sold < 9; sold++) {
                full.sell(99);
            }
        }
        e.due("P31 as much comes into a full trough as into an empty one", came[0], came[1]);
        e.due("P31 one house", x.decades(goingSeed(), 1, 0), 99);
    }

    /** Terms: DECADES "what was PRINTED on all, together (as it came)": more than the 99 that stay. */
    private static void decadesAsItCame() {
        String town = Edges.plain(2, 9, 50, 9);
        int seed = 0;
        int[] want = byHand(town, seed, 99);
        while (want[1] <= 198 && seed < 99) {
            seed++;
            want = byHand(town, seed, 99);
        }
        e.due("P31 beyond 99 on each", want[1] > 198, true);
        e.due("P31 as it came", Checks.of(town).decades(seed, 99, 1), want[1]);
        MangleTown x = Checks.of(town);
        for (int i = 0; i < 12; i++) {
            x.run();
        }
        e.due("P5 99 on one already", x.house(1, 4), 99);
        e.due("P31 as it came all the same", x.decades(seed, 99, 1), want[1]);
    }

    /** Terms: DECADES "coins more": those that there are do not count, the pints that there are are sold. */
    private static void decadesCoinsMore() {
        MangleTown x = Checks.of(Edges.plain(2, 9, 99, 0) + "price 2;rains 0;");
        x.run();
        x.sell(99);
        e.due("P33 coins", x.count(7), 198);
        // 99 pints are left and nothing more comes: 11 times 9.
        for (int fortnights : new int[] {1, 10, 11, 12, 99}) {
            e.due("P31 coins of " + fortnights, x.decades(8, fortnights, 2), 18 * Math.min(11, fortnights));
            e.due("P31 pints", x.decades(8, fortnights, 0), 0);
        }
        MangleTown free = Checks.of(Edges.plain(2, 9, 99, 0) + "price 0;");
        e.due("P31 for nothing", free.decades(8, 99, 2), 0);
    }
}
