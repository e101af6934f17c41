import java.util.ArrayList;
import java.util.List;
import java.util.NoSuchElementException;
import java.util.Random;

/** Runs of drawn calls, right and wrong ones, on the class and on the model: they must agree. */
public final class StormTest {
    private static final int NO_SUCH = Integer.MIN_VALUE;
    private static final String[] NAMES = {"hall", "inn", "tom", "wide", "z", "abcdefgh", "wall", "q", "shop"};
    private static final String[] KINDS = {"plain", "stout", "sharp", "cat"};
    private static final String[] SOUP = {"house", "hall", "inn", "cat", "thick", "wet", "ink", "shuns", "gap",
        "rains", "price", "presses", "prints", "put", "road", "run", "sell", "not", "and", "or", "wide", "damp",
        "black", "wall", "between", "(", ")", "<", "=", "+", "-", "*", ";", "0", "1", "9", "10", "21", "100",
        "9999", "12345", "abcdefghi", "?", "A", "stout", "z", "\n", "~", "0007"};

    private final Random random;
    private final MangleTown own = new MangleTown();
    private final Model model = new Model();
    private final List<String> log = new ArrayList<>();
    private final Checks checks;

    private StormTest(long seed, Checks checks) {
        this.random = new Random(seed);
        this.checks = checks;
    }

    public static void main(String[] args) {
        Checks checks = new Checks();
        int storms = args.length > 0 ? Integer.parseInt(args[0]) : 150;
        for (int seed = 0; seed < storms; seed++) {
            new StormTest(seed, checks).storm(seed % 3 == 0 ? 7 : 5);
        }
        checks.end();
    }

    private void storm(int mostHouses) {
        while (log.size() < 470) {
            if (log.isEmpty() || random.nextInt(60) == 0) {
                tell(random.nextInt(3) == 0 ? broken(townText(mostHouses)) : townText(mostHouses), true);
            } else if (random.nextInt(30) == 0) {
                tell(random.nextInt(4) == 0 ? broken(yearsText()) : yearsText(), false);
            } else if (random.nextInt(50) == 0) {
                tell(soup(), random.nextBoolean());
            } else {
                call(random.nextInt(40));
            }
        }
    }

    // ---- texts

    private int below(int n) {
        return random.nextInt(n);
    }

    private String townText(int mostHouses) {
        List<String> lines = new ArrayList<>();
        int n = below(12) == 0 ? below(2) : Math.min(mostHouses, 2 + below(mostHouses));
        for (int i = 0; i < n; i++) {
            lines.add("house " + NAMES[i] + " " + KINDS[below(4)] + " thick " + (1 + below(20)) + " wet "
                    + below(100) + " ink " + below(10) + ";");
        }
        int shuns = below(3) * below(14);
        for (int i = 0; n > 1 && i < shuns; i++) {
            int a = below(n);
            int b = below(n);
            String line = "shuns " + NAMES[a] + " " + NAMES[b] + ";";
            if (a != b && !lines.contains(line)) {
                lines.add(line);
            }
        }
        maybe(lines, "gap " + (1 + below(20)));
        maybe(lines, "price" + below(100));
        StringBuilder rains = new StringBuilder("rains");
        for (int i = 0; i <= below(12) && i < 12; i++) {
            rains.append(' ').append(below(10));
        }
        maybe(lines, rains.toString());
        maybe(lines, "presses " + law(3, false));
        maybe(lines, "prints " + law(3, true));
        return String.join(random.nextBoolean() ? "" : "\n", lines);
    }

    private void maybe(List<String> lines, String line) {
        if (random.nextBoolean()) {
            lines.add(line + ";");
        }
    }

    private String law(int depth, boolean prints) {
        int pick = depth <= 0 ? below(5) : below(12);
        switch (pick) {
            case 0: return "wide";
            case 1: return "damp";
            case 2: return "between";
            case 3: return prints ? random.nextBoolean() ? "black" : "wall" : "damp";
            case 4: return "" + (random.nextInt(4) == 0 ? below(10000) : below(12));
            case 5: return "not " + law(0, prints);
            case 6: return "(" + law(depth - 1, prints) + ")";
            case 7: return law(depth - 1, prints) + "+" + law(depth - 1, prints);
            case 8: return law(depth - 1, prints) + "-" + law(depth - 1, prints);
            case 9: return law(depth - 1, prints) + "*" + law(depth - 1, prints);
            case 10: return "(" + law(depth - 1, prints) + ")" + (random.nextBoolean() ? "<" : "=") + "("
                    + law(depth - 1, prints) + ")";
            default: return "(" + law(depth - 1, prints) + (random.nextBoolean() ? " and " : " or ")
                    + law(depth - 1, prints) + ")";
        }
    }

    private String yearsText() {
        StringBuilder out = new StringBuilder();
        int n = random.nextInt(8) == 0 ? 38 + below(5) : below(12);
        int houses = Math.max(1, model.count(0));
        for (int i = 0; i < n; i++) {
            String name = NAMES[below(houses)];
            switch (below(6)) {
                case 0: out.append("put ").append(name).append(' ').append(below(7)).append(';'); break;
                case 1: out.append("road ").append(name).append(';'); break;
                case 2: out.append("sell ").append(1 + below(99)).append(';'); break;
                default: out.append("run ;"); break;
            }
        }
        return out.toString();
    }

    private String broken(String text) {
        StringBuilder out = new StringBuilder(text);
        int at = below(out.length() + 1);
        switch (below(6)) {
            case 0: out.setLength(at); break;
            case 1: out.insert(at, SOUP[below(SOUP.length)]); break;
            case 2: out.insert(at, " " + SOUP[below(SOUP.length)] + " "); break;
            case 3: out.insert(at, below(10)); break;
            case 4: replaceWord(out, at); break;
            default: out.append(text);
        }
        return out.toString();
    }

    /** The word or number behind a place becomes another one. */
    private void replaceWord(StringBuilder out, int at) {
        int from = at;
        while (from < out.length() && !Character.isLetterOrDigit(out.charAt(from))) {
            from++;
        }
        int to = from;
        while (to < out.length() && Character.isLetterOrDigit(out.charAt(to))) {
            to++;
        }
        out.replace(from, to, random.nextBoolean() ? NAMES[below(NAMES.length)] : SOUP[below(SOUP.length)]);
    }

    private String soup() {
        StringBuilder out = new StringBuilder();
        String[] starts = {"presses ", "prints ", "rains ", "", "house z plain thick 2 wet 3 ink 4; presses "};
        out.append(starts[below(starts.length)]);
        int n = below(14);
        String[] law = {"not ", "(", ")", "1", "damp", "+", "<", " and ", "not(", "((", "wide", ";"};
        boolean lawful = random.nextBoolean();
        for (int i = 0; i < n; i++) {
            out.append(lawful ? law[below(law.length)] : SOUP[below(SOUP.length)] + " ");
        }
        return out.toString();
    }

    private void tell(String text, boolean asTown) {
        for (int i = 0; i < text.length() && log.size() < 500; i += 24) {
            feedBoth(Checks.bytes(text, i), Checks.bytes(text, i + 8), Checks.bytes(text, i + 16));
        }
        if (asTown) {
            same("town() of " + text, own.town(), model.town());
        } else {
            same("years() of " + text, own.years(), model.years());
        }
    }

    /** Signs of all sorts; mostly they are read off again, so that the next text stands alone. */
    private void feedJunk() {
        feedBoth(random.nextLong(), random.nextLong(), random.nextLong());
        if (below(4) != 0) {
            same("years() of junk", own.years(), model.years());
        }
    }

    private void feedBoth(long a, long b, long c) {
        same("feed(" + a + ", " + b + ", " + c + ")", own.feed(a, b, c), model.feed(a, b, c));
    }

    // ---- calls

    private void same(String call, int got, int want) {
        log.add(call);
        checks.due(call, got, want);
        if (got != want && System.getenv("STORM_LOG") != null) {
            System.out.println(String.join("\n", log));
            System.exit(1);
        }
    }

    private void same(String call, boolean got, boolean want) {
        same(call, got ? 1 : 0, want ? 1 : 0);
    }

    private static int caught(Checks.Call call) {
        try {
            return call.answer();
        } catch (NoSuchElementException e) {
            return NO_SUCH;
        }
    }

    /** Mostly a number that is right, at times one just off or far off. */
    private int near(int least, int most) {
        switch (below(40)) {
            case 0: return random.nextInt();
            case 1: return random.nextBoolean() ? Integer.MIN_VALUE : Integer.MAX_VALUE;
            case 2: return least - 1;
            case 3: return most + 1;
            default: return least + below(most - least + 1);
        }
    }

    private int anyHouse() {
        int n = model.count(0);
        return n > 0 && below(15) != 0 ? below(n) : near(-1, 7);
    }

    private void call(int which) {
        int a = anyHouse();
        int b = anyHouse();
        if (which < 12) {
            byHand(which, a, b);
        } else if (which < 26) {
            asked(which, a, b);
        } else {
            others(which, a, b);
        }
    }

    private void byHand(int which, int a, int b) {
        int w = near(0, 6);
        int s = below(3) == 0 ? near(1, 99) : near(1, 20);
        switch (which) {
            case 0: same("house " + a + " " + w, own.house(a, w), model.house(a, w)); break;
            case 1: same("order " + a, own.order(a), model.order(a)); break;
            case 2: same("ahead " + a, own.ahead(a), model.ahead(a)); break;
            case 3: same("pressed " + a, own.pressed(a), model.pressed(a)); break;
            case 4: same("blot " + a + " " + b, own.blot(a, b), model.blot(a, b)); break;
            case 5: case 6: same("put " + a + " " + b, own.put(a, b), model.put(a, b)); break;
            case 7: same("road " + a, own.road(a), model.road(a)); break;
            case 8: case 9: same("run", own.run(), model.run()); break;
            case 10: same("sell " + s, own.sell(s), model.sell(s)); break;
            default: undoSome(); break;
        }
    }

    private void undoSome() {
        int n = random.nextInt(6) == 0 ? 17 : 1;
        for (int i = 0; i < n; i++) {
            same("undo", own.undo(), model.undo());
        }
    }

    private void asked(int which, int a, int b) {
        int w = near(0, 2);
        int wet = near(1, 693);
        switch (which) {
            case 12: same("judged " + w, own.judged(w), model.judged(w)); break;
            case 13: same("shunned", own.shunned(), model.shunned()); break;
            case 14: same("best " + a, own.best(a), model.best(a)); break;
            case 15: same("best -1", own.best(-1), model.best(-1)); break;
            case 16: same("around", own.around(), model.around()); break;
            case 17: same("till " + wet, own.till(wet), model.till(wet)); break;
            case 18: drySome(); break;
            case 19: hearSome(wet); break;
            case 20: same("sets " + w, own.sets(w), model.sets(w)); break;
            case 21: same("look", own.look(), model.look()); break;
            case 22: same("see " + a + " " + b, own.see(a, b), model.see(a, b)); break;
            case 23: same("orders", own.orders(), model.orders()); break;
            case 24: same("first " + a, own.first(a), model.first(a)); break;
            default: same("ask", own.ask(), model.ask()); break;
        }
    }

    private void drySome() {
        int wet = below(2) == 0 ? near(0, 99) : near(0, 5);
        same("dry " + wet, own.dry(wet), model.dry(wet));
    }

    /** Mostly a sum that some set gives, so that there is something to find. */
    private void hearSome(int wild) {
        int sum = 0;
        for (int h = 0; h < model.count(0); h++) {
            sum += random.nextBoolean() ? model.pressed(h) : 0;
        }
        int pints = below(5) == 0 ? wild : sum;
        same("hear " + pints, own.hear(pints), model.hear(pints));
    }

    private void others(int which, int a, int b) {
        int w = near(0, 2);
        int side = near(0, 1);
        int odds = near(0, 10);
        int times = near(1, 8);
        int c = near(0, 14);
        int what = near(-1, 60);
        int seed = near(0, 9999);
        int long99 = near(1, 99);
        int one = near(0, 9);
        int other = near(0, 9);
        int mark = near(0, 3);
        boolean back = random.nextBoolean();
        switch (which) {
            case 26: same("share " + a, own.share(a), model.share(a)); break;
            case 27: case 28: same("pin " + odds + " " + times + " " + side,
                    caught(() -> own.pin(odds, times, side)), caught(() -> model.pin(odds, times, side))); break;
            case 29: same("rests " + one + " " + other + " " + what,
                    caught(() -> own.rests(one, other, what)), caught(() -> model.rests(one, other, what))); break;
            case 30: case 31: same("decades " + seed + " " + long99 + " " + w,
                    own.decades(seed, long99, w), model.decades(seed, long99, w)); break;
            case 32: same("mark " + mark + " " + back, own.mark(mark, back), model.mark(mark, back)); break;
            case 33: feedJunk(); break;
            case 34: same("road " + a, own.road(a), model.road(a)); break;
            case 35: same("run", own.run(), model.run()); break;
            default: same("count " + c, own.count(c), model.count(c)); break;
        }
    }
}
