import java.util.NoSuchElementException;

/** What the tests of boundaries share: how all answers stand ahead of a call and behind it. */
final class Edges {
    static final int NO_SUCH = Integer.MIN_VALUE;
    static final int[] FAR_OFF = {Integer.MIN_VALUE, -2147483647, -1000000, 1000000, Integer.MAX_VALUE};
    /** The words that no house can be named by. */
    static final String[] KEPT = {"house", "thick", "wet", "ink", "shuns", "gap", "rains", "price",
        "presses", "prints", "put", "road", "run", "sell", "plain", "stout", "sharp", "cat", "not", "and", "or"};
    static final String FOUR = "house hall stout thick 8 wet 40 ink 4;house inn sharp thick 4 wet 29 ink 2;"
            + "house tom cat thick 2 wet 16 ink 7;house shop plain thick 6 wet 32 ink 1;";

    /** Makes the same object each time. */
    interface Maker {
        MangleTown make();
    }

    /** One call, or what is fed and then read. */
    interface Asked {
        int of(MangleTown x);
    }

    private final Checks checks = new Checks();

    void due(String call, int got, int want) {
        checks.due(call, got, want);
    }

    void due(String call, boolean got, boolean want) {
        checks.due(call, got, want);
    }

    void noSuch(String call, Checks.Call asked) {
        checks.noSuch(call, asked);
    }

    void end() {
        checks.end();
    }

    static int bit(boolean so) {
        return so ? 1 : 0;
    }

    static int at(int kind, int place) {
        return kind + 16 * place;
    }

    static String house(String name, String kind, int thick, int wet, int ink) {
        return "house " + name + " " + kind + " thick " + thick + " wet " + wet + " ink " + ink + ";";
    }

    /** So many plain houses a, b, .. all alike. */
    static String plain(int many, int thick, int wet, int ink) {
        StringBuilder out = new StringBuilder();
        for (int i = 0; i < many; i++) {
            out.append(house("" + (char) ('a' + i), "plain", thick, wet, ink));
        }
        return out.toString();
    }

    /** Four houses of four kinds; deeds, years, what is heard and seen, two marks, signs on the tape. */
    static MangleTown rich() {
        MangleTown x = Checks.of(FOUR + "shuns shop inn;shuns inn hall;rains 2 0 7;price 4;");
        x.put(3, 1);
        x.run();
        x.sell(5);
        x.mark(1, false);
        x.road(1);
        x.hear(20);
        x.see(0, 2);
        Checks.years(x, "put hall 5;run;sell 9;road inn;run;");
        x.mark(3, false);
        x.run();
        x.see(3, 1);
        return x;
    }

    /** As rich, with signs that wait on the tape. */
    static MangleTown richWithTape() {
        MangleTown x = rich();
        Checks.feed(x, "gap 7;");
        return x;
    }

    /** What all asking calls answer, and that alone. */
    static String looks(MangleTown x) {
        StringBuilder out = new StringBuilder();
        for (int what = -1; what <= 15; what++) {
            out.append(" count").append(what).append('=').append(x.count(what));
        }
        int houses = x.count(0);
        for (int h = 0; h < houses; h++) {
            out.append("\nhouse").append(h).append(':');
            for (int what = 0; what <= 6; what++) {
                out.append(' ').append(x.house(h, what));
            }
            out.append(" order ").append(x.order(h)).append(" ahead ").append(x.ahead(h));
            out.append(" pressed ").append(x.pressed(h)).append(" share ").append(x.share(h));
            out.append(" best ").append(x.best(h)).append(" first ").append(x.first(h));
            out.append(" blot ").append(x.blot(h, (h + 1) % houses));
        }
        for (int what = 0; what <= 2; what++) {
            out.append("\njudged").append(what).append('=').append(x.judged(what));
            out.append(" sets").append(what).append('=').append(x.sets(what));
            out.append(" decades").append(what).append('=').append(x.decades(1, 9, what));
        }
        out.append("\nshunned ").append(x.shunned()).append(" best ").append(x.best(-1));
        out.append(" around ").append(x.around()).append(" till ").append(x.till(100));
        out.append(" dry ").append(x.dry(0)).append(" look ").append(x.look());
        out.append(" orders ").append(x.orders()).append(" ask ").append(x.ask());
        out.append(" pin ").append(caught(() -> x.pin(5, 3, 1)));
        return out.toString();
    }

    /** What comes of undoing all, of going back to each mark, and of reading the tape. */
    static String unwound(MangleTown x) {
        StringBuilder out = new StringBuilder();
        for (int i = 0; i < 17; i++) {
            out.append("\nundo ").append(x.undo()).append(few(x));
        }
        for (int mark = 0; mark < 4; mark++) {
            out.append("\nmark ").append(x.mark(mark, true)).append(few(x));
        }
        out.append("\ntape ").append(x.town()).append(few(x));
        return out.toString();
    }

    private static String few(MangleTown x) {
        StringBuilder out = new StringBuilder();
        for (int what : new int[] {1, 3, 5, 6, 7, 8, 9, 10, 11, 12}) {
            out.append(' ').append(x.count(what));
        }
        return out.append(" first ").append(x.order(0)).toString();
    }

    static int caught(Checks.Call call) {
        try {
            return call.answer();
        } catch (NoSuchElementException e) {
            return NO_SUCH;
        }
    }

    /** The call answers so, and nothing is another way behind it than it was ahead of it. */
    void leaves(String call, int want, Maker maker, Asked asked) {
        MangleTown x = maker.make();
        String ahead = looks(x);
        due(call, caught(() -> asked.of(x)), want);
        same(call + ": all stays", looks(x), ahead);
        // Another object, so that none is used for more than 512 calls.
        MangleTown other = maker.make();
        caught(() -> asked.of(other));
        same(call + ": what can be undone, the marks, the tape stay", unwound(other), unwound(maker.make()));
    }

    /** A text as a town on a new object. */
    void town(String text, int want) {
        due("town " + text, Checks.town(new MangleTown(), text), want);
    }

    /** A text that is no town: it leaves all as it is. */
    void noTown(String text, int kind, int place) {
        leaves("town " + text, at(kind, place), Edges::rich, x -> Checks.town(x, text));
    }

    /** The call answers so, and something is another way behind it; what was ahead of it comes back by undo. */
    void does(String call, int want, Maker maker, Asked asked) {
        MangleTown x = maker.make();
        String ahead = looks(x);
        int undos = x.count(13);
        due(call, asked.of(x), want);
        due(call + ": something is done", !looks(x).equals(ahead), true);
        due(call + ": one more can be undone", x.count(13), undos + 1);
        due(call + ": undone", x.undo(), true);
        same(call + ": all is back", looks(x), ahead);
    }

    void same(String call, String got, String want) {
        due(call, got.equals(want), true);
        if (!got.equals(want)) {
            System.out.println("--- got" + got + "\n--- due" + want);
        }
    }
}
