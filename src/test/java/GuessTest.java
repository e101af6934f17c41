/** Promises 21 to 27: what is heard and seen, and what to ask for. */
public final class GuessTest {
    private static final Checks c = new Checks();

    public static void main(String[] args) {
        hearing();
        setsOf();
        looking();
        seeing();
        ordersOf();
        asking();
        c.end();
    }

    /** Houses whose presses give just these. */
    private static MangleTown giving(int... gives) {
        StringBuilder town = new StringBuilder("presses damp;");
        for (int i = 0; i < gives.length; i++) {
            town.append("house ").append((char) ('a' + i)).append(" plain thick 1 wet ").append(gives[i])
                    .append(" ink 0;");
        }
        return Checks.of(town.toString());
    }

    private static void hearing() {
        MangleTown x = giving(1, 2);
        c.due("P21 below", x.hear(-1), false);
        c.due("P21 beyond", x.hear(694), false);
        c.due("P21 nothing heard", x.count(12), -1);
        c.due("P21 0", x.hear(0), true);
        c.due("P21 heard", x.count(12), 0);
        c.due("P21 693", x.hear(693), true);
        c.due("P21 in its place", x.count(12), 693);
        c.due("P21 wrong", x.hear(700), false);
        c.due("P21 stays", x.count(12), 693);
        c.due("P21 is not to be undone", x.count(13), 0);
    }

    private static void sets(String call, MangleTown x, int many, int inAll, int inSome) {
        c.due(call + ", how many", x.sets(0), many);
        c.due(call + ", in all", x.sets(1), inAll);
        c.due(call + ", in some", x.sets(2), inSome);
        c.due(call + ", below", x.sets(-1), -1);
        c.due(call + ", beyond", x.sets(3), -1);
    }

    private static void setsOf() {
        sets("P22 nobody", new MangleTown(), 1, 0, 0);
        MangleTown x = giving(1, 2, 3, 4);
        sets("P22 all sets", x, 16, 0, 15);
        x.hear(5);
        sets("P22 1+4, 2+3", x, 2, 0, 15);
        x.hear(8);
        sets("P22 1+3+4", x, 1, 13, 13);
        x.hear(9);
        sets("P22 2+3+4", x, 1, 14, 14);
        x.hear(7);
        sets("P22 3+4, 1+2+4", x, 2, 8, 15);
        x.hear(0);
        sets("P22 the empty one", x, 1, 0, 0);
        x.hear(11);
        sets("P22 none", x, 0, -1, -1);
        x.hear(5);
        x.road(0);
        sets("P22 only those that go", x, 1, 6, 6);
        MangleTown dry = giving(0, 5);
        dry.hear(5);
        sets("P22 one that gives nothing", dry, 2, 2, 3);
        // As each is now: a run changes what each would give.
        MangleTown y = giving(4, 9);
        y.hear(9);
        sets("P22 now", y, 1, 2, 2);
        y.run();
        sets("P22 1 of each by the rain", y, 0, -1, -1);
    }

    private static void looking() {
        c.due("P23 nobody", new MangleTown().look(), -1);
        MangleTown x = giving(1, 2, 3, 4);
        c.due("P23 all sets: the first", x.look(), 0);
        x.hear(7);
        c.due("P23 3+4, 1+2+4: the first that parts", x.look(), 0);
        x.hear(8);
        c.due("P23 one set", x.look(), -1);
        x.hear(11);
        c.due("P23 no set", x.look(), -1);
        MangleTown y = giving(6, 1, 2, 3, 4);
        y.hear(7);
        // 6+1, 3+4, 1+2+4: the first is in one of three, the second in two: of equal ones the first.
        c.due("P23 of equal ones the first", y.look(), 0);
        MangleTown z = giving(7, 1, 2, 4, 3);
        z.hear(7);
        // 7; 4+3; 1+2+4: 2 of 3 at least for each.
        c.due("P23 2 of 3", z.look(), 0);
        MangleTown w = giving(5, 5, 5, 9, 1);
        w.hear(10);
        // 5+5 three times, 9+1: each 5 is in 2 of 4.
        c.due("P23 2 of 4", w.look(), 0);
        MangleTown v = giving(9, 1, 5, 5, 5);
        v.hear(10);
        c.due("P23 the one that parts best, behind others", v.look(), 2);
    }

    private static void seeing() {
        MangleTown x = giving(1, 2, 3);
        c.due("P24 the same", x.see(1, 1), false);
        c.due("P24 none such", x.see(3, 0), false);
        c.due("P24 none such", x.see(0, 3), false);
        c.due("P24 below", x.see(-1, 0), false);
        c.due("P24 nothing seen", x.count(11), 0);
        for (int i = 1; i <= 8; i++) {
            c.due("P24 seen", x.see(0, 1), true);
            c.due("P24 how many", x.count(11), i);
        }
        c.due("P24 8 at most", x.see(0, 2), false);
        c.due("P24 is not to be undone", x.count(13), 0);
        c.due("P24 the ninth was not seen", x.orders(), 3);
    }

    private static void row(String call, MangleTown x, int... want) {
        for (int i = 0; i < want.length; i++) {
            c.due(call + ", place " + i, x.first(i), want[i]);
        }
        c.due(call + ", beyond", x.first(want.length), -1);
        c.due(call + ", below", x.first(-1), -1);
    }

    private static void ordersOf() {
        c.due("P25 nobody", new MangleTown().orders(), 1);
        row("P26 nobody", new MangleTown());
        MangleTown x = giving(1, 2, 3, 4, 5, 6, 7);
        c.due("P25 7!", x.orders(), 5040);
        row("P26 by numbers", x, 0, 1, 2, 3, 4, 5, 6);
        x.see(6, 0);
        c.due("P25 half", x.orders(), 2520);
        row("P26 0 behind 6", x, 1, 2, 3, 4, 5, 6, 0);
        x.see(3, 1);
        row("P26 1 behind 3, too", x, 2, 3, 1, 4, 5, 6, 0);
        c.due("P25 a quarter", x.orders(), 1260);
        x.road(6);
        x.put(0, 0);
        c.due("P25 road and order are nothing to it", x.orders(), 1260);
        x.see(0, 6);
        c.due("P25 a circle", x.orders(), 0);
        row("P26 no order", x, -1, -1, -1, -1, -1, -1, -1);
        MangleTown two = giving(1, 2, 3);
        two.see(0, 2);
        two.see(1, 2);
        c.due("P25 two ahead of one", two.orders(), 2);
        c.due("P27 the two", two.ask(), 1);
        MangleTown anew = giving(1, 2);
        anew.see(1, 0);
        row("P26 seen", anew, 1, 0);
        Checks.town(anew, "house a cat thick 1 wet 0 ink 0;house b cat thick 1 wet 0 ink 0;");
        row("P26 nothing seen of another town", anew, 0, 1);
        c.due("P25 nothing seen of another town", anew.orders(), 2);
        MangleTown cats = Checks.of("house a cat thick 1 wet 0 ink 0;house b cat thick 1 wet 0 ink 0;");
        c.due("P25 cats count", cats.orders(), 2);
        cats.see(1, 0);
        row("P26 cats count", cats, 1, 0);
    }

    private static void asking() {
        c.due("P27 nobody", new MangleTown().ask(), -1);
        c.due("P27 one", giving(1).ask(), -1);
        MangleTown x = giving(1, 2, 3);
        c.due("P27 all alike: the first two", x.ask(), 1);
        x.see(0, 1);
        // 012, 021, 201: 0 ahead of 2 in two, 1 ahead of 2 in one.
        c.due("P27 0 and 2", x.ask(), 2);
        x.see(0, 2);
        c.due("P27 1 and 2", x.ask(), 8 + 2);
        x.see(2, 1);
        c.due("P27 one order", x.ask(), -1);
        x.see(1, 0);
        c.due("P27 no order", x.ask(), -1);
        MangleTown y = giving(1, 2, 3, 4);
        y.see(0, 1);
        c.due("P27 the half is better than two thirds", y.ask(), 16 + 3);
    }
}
