import java.util.ArrayDeque;
import java.util.ArrayList;
import java.util.Arrays;
import java.util.Deque;
import java.util.HashMap;
import java.util.HashSet;
import java.util.List;
import java.util.Map;
import java.util.NoSuchElementException;
import java.util.Set;

/**
 * The document once more, in another form than the class: every search by trying all there is,
 * every law worked out of its tokens again each time. Slow, for comparison only.
 */
final class Model {
    static final int NONE = -1;
    static final Set<String> KEPT = new HashSet<>(Arrays.asList(
            "house", "thick", "wet", "ink", "shuns", "gap", "rains", "price", "presses", "prints",
            "put", "road", "run", "sell", "plain", "stout", "sharp", "cat", "not", "and", "or"));
    static final List<String> KINDS = Arrays.asList("plain", "stout", "sharp", "cat");

    /** A token: w word, n number, s sign, x none, e end. */
    record Token(char sort, String text, int place) { }

    static final class Fault extends RuntimeException {
        private static final long serialVersionUID = 1L;
        final int code;

        Fault(int kind, Token token) {
            super(null, null, false, false);
            code = kind + 16 * token.place();
        }
    }

    static final class HouseTold {
        String name;
        int kind;
        int thick;
        int wet;
        int ink;
        Set<Integer> shuns = new HashSet<>();
    }

    static final class Told {
        List<HouseTold> houses = new ArrayList<>();
        int gap = 5;
        int price = 3;
        List<Integer> rains = new ArrayList<>(List.of(1));
        List<Token> presses;
        List<Token> prints;

        int find(String name) {
            for (int i = 0; i < houses.size(); i++) {
                if (houses.get(i).name.equals(name)) {
                    return i;
                }
            }
            return NONE;
        }

        int size() {
            return houses.size();
        }

        boolean cat(int h) {
            return houses.get(h).kind == 3;
        }
    }

    record Line(String deed, int house, int number) { }

    static final class How {
        int[] thick;
        int[] wet;
        int[] printed;
        List<Integer> order = new ArrayList<>();
        Set<Integer> road = new HashSet<>();
        int gap;
        int fortnight;
        int pints;
        int coins;

        How copy() {
            How c = new How();
            c.thick = thick.clone();
            c.wet = wet.clone();
            c.printed = printed.clone();
            c.order = new ArrayList<>(order);
            c.road = new HashSet<>(road);
            c.gap = gap;
            c.fortnight = fortnight;
            c.pints = pints;
            c.coins = coins;
            return c;
        }
    }

    record Mark(How how, List<Line> years, int heard, List<int[]> seen) { }

    StringBuilder tape = new StringBuilder();
    Told told = new Told();
    How how = begin();
    List<Line> years = new ArrayList<>();
    int heard = NONE;
    List<int[]> seen = new ArrayList<>();
    Deque<How> past = new ArrayDeque<>();
    Map<Integer, Mark> marks = new HashMap<>();

    // ---- telling

    static List<Token> tokens(String text) {
        List<Token> out = new ArrayList<>();
        int i = 0;
        while (i < text.length()) {
            char c = text.charAt(i);
            int j = i + 1;
            if (c == ' ' || c == '\n') {
                i++;
                continue;
            }
            char sort = 'x';
            if (Character.isLowerCase(c)) {
                while (j < text.length() && Character.isLowerCase(text.charAt(j))) {
                    j++;
                }
                sort = j - i <= 8 ? 'w' : 'x';
            } else if (Character.isDigit(c)) {
                while (j < text.length() && Character.isDigit(text.charAt(j))) {
                    j++;
                }
                sort = j - i <= 4 ? 'n' : 'x';
            } else if ("()<=+-*;".indexOf(c) >= 0) {
                sort = 's';
            }
            out.add(new Token(sort, text.substring(i, j), i));
            i = j;
        }
        out.add(new Token('e', "", text.length()));
        return out;
    }

    private List<Token> read;
    private int at;

    private Token peek() {
        return read.get(at);
    }

    private boolean isNext(char sort, String text) {
        return peek().sort() == sort && peek().text().equals(text);
    }

    private Token must(char sort, String text) {
        if (!isNext(sort, text)) {
            throw new Fault(1, peek());
        }
        return read.get(at++);
    }

    private int mustNumber(int least, int most) {
        Token t = peek();
        if (t.sort() != 'n') {
            throw new Fault(1, t);
        }
        int n = Integer.parseInt(t.text());
        if (n < least || n > most) {
            throw new Fault(4, t);
        }
        at++;
        return n;
    }

    private Token mustName() {
        Token t = peek();
        if (t.sort() != 'w' || KEPT.contains(t.text())) {
            throw new Fault(1, t);
        }
        at++;
        return t;
    }

    private int mustHouse(Told of) {
        Token t = mustName();
        if (of.find(t.text()) == NONE) {
            throw new Fault(2, t);
        }
        return of.find(t.text());
    }

    int town() {
        read = tokens(tape.toString());
        at = 0;
        tape.setLength(0);
        Told next = new Told();
        try {
            Set<String> once = new HashSet<>();
            while (peek().sort() != 'e') {
                townLine(next, once);
                must('s', ";");
            }
        } catch (Fault f) {
            return f.code;
        }
        told = next;
        how = begin();
        years = new ArrayList<>();
        heard = NONE;
        seen = new ArrayList<>();
        past.clear();
        marks.clear();
        return 0;
    }

    private void townLine(Told next, Set<String> once) {
        Token first = peek();
        if (first.sort() != 'w') {
            throw new Fault(1, first);
        }
        if (Arrays.asList("gap", "rains", "price", "presses", "prints").contains(first.text())
                && !once.add(first.text())) {
            throw new Fault(3, first);
        }
        at++;
        switch (first.text()) {
            case "house" -> houseLine(next, first);
            case "shuns" -> {
                int one = mustHouse(next);
                Token second = peek();
                int other = mustHouse(next);
                if (one == other || !next.houses.get(one).shuns.add(other)) {
                    throw new Fault(3, second);
                }
            }
            case "gap" -> next.gap = mustNumber(1, 20);
            case "price" -> next.price = mustNumber(0, 99);
            case "rains" -> {
                next.rains.clear();
                next.rains.add(mustNumber(0, 9));
                while (peek().sort() == 'n') {
                    Token t = peek();
                    int n = mustNumber(0, 9);
                    if (next.rains.size() == 12) {
                        throw new Fault(5, t);
                    }
                    next.rains.add(n);
                }
            }
            case "presses" -> next.presses = law(false);
            case "prints" -> next.prints = law(true);
            default -> throw new Fault(1, first);
        }
    }

    private void houseLine(Told next, Token first) {
        if (next.size() == 7) {
            throw new Fault(5, first);
        }
        HouseTold h = new HouseTold();
        Token name = mustName();
        if (next.find(name.text()) != NONE) {
            throw new Fault(3, name);
        }
        h.name = name.text();
        Token kind = peek();
        if (kind.sort() != 'w' || !KINDS.contains(kind.text())) {
            throw new Fault(1, kind);
        }
        at++;
        h.kind = KINDS.indexOf(kind.text());
        must('w', "thick");
        h.thick = mustNumber(1, 20);
        must('w', "wet");
        h.wet = mustNumber(0, 99);
        must('w', "ink");
        h.ink = mustNumber(0, 9);
        next.houses.add(h);
    }

    /** The tokens of a law, found by working it out once with nothing. */
    private List<Token> law(boolean ofPrints) {
        int from = at;
        Map<String, Integer> facts = new HashMap<>();
        for (String fact : List.of("wide", "damp", "between")) {
            facts.put(fact, 0);
        }
        if (ofPrints) {
            facts.put("black", 0);
            facts.put("wall", 0);
        }
        e(facts, 0);
        List<Token> out = new ArrayList<>(read.subList(from, at));
        out.add(new Token('e', "", 0));
        return out;
    }

    private int work(List<Token> law, Map<String, Integer> facts) {
        read = law;
        at = 0;
        return e(facts, 0);
    }

    private int e(Map<String, Integer> facts, int within) {
        int left = test(facts, within);
        while (isNext('w', "and") || isNext('w', "or")) {
            boolean and = read.get(at++).text().equals("and");
            int right = test(facts, within);
            boolean so = and ? left != 0 & right != 0 : left != 0 | right != 0;
            left = so ? 1 : 0;
        }
        return left;
    }

    private int test(Map<String, Integer> facts, int within) {
        int left = sum(facts, within);
        if (isNext('s', "<")) {
            at++;
            return left < sum(facts, within) ? 1 : 0;
        }
        if (isNext('s', "=")) {
            at++;
            return left == sum(facts, within) ? 1 : 0;
        }
        return left;
    }

    private int sum(Map<String, Integer> facts, int within) {
        int left = product(facts, within);
        while (isNext('s', "+") || isNext('s', "-")) {
            boolean plus = read.get(at++).text().equals("+");
            int right = product(facts, within);
            left = plus ? left + right : left - right;
        }
        return left;
    }

    private int product(Map<String, Integer> facts, int within) {
        int left = part(facts, within);
        while (isNext('s', "*")) {
            at++;
            left *= part(facts, within);
        }
        return left;
    }

    private int part(Map<String, Integer> facts, int within) {
        Token t = peek();
        boolean word = t.sort() == 'w';
        boolean fact = word && facts.containsKey(t.text());
        boolean not = word && t.text().equals("not");
        boolean opens = t.sort() == 's' && t.text().equals("(");
        if (t.sort() != 'n' && !fact && !not && !opens) {
            throw new Fault(1, t);
        }
        if (within == 5) {
            throw new Fault(5, t);
        }
        at++;
        if (fact) {
            return facts.get(t.text());
        }
        if (not) {
            return part(facts, within + 1) == 0 ? 1 : 0;
        }
        if (opens) {
            int v = e(facts, within + 1);
            must('s', ")");
            return v;
        }
        return Integer.parseInt(t.text());
    }

    int years() {
        read = tokens(tape.toString());
        at = 0;
        tape.setLength(0);
        List<Line> next = new ArrayList<>();
        try {
            while (peek().sort() != 'e') {
                Token first = peek();
                if (first.sort() != 'w' || !List.of("put", "road", "run", "sell").contains(first.text())) {
                    throw new Fault(1, first);
                }
                if (next.size() == 40) {
                    throw new Fault(5, first);
                }
                at++;
                int house = NONE;
                int number = NONE;
                if (first.text().equals("put") || first.text().equals("road")) {
                    house = mustHouse(told);
                }
                if (first.text().equals("put")) {
                    number = mustNumber(0, 6);
                }
                if (first.text().equals("sell")) {
                    number = mustNumber(1, 99);
                }
                must('s', ";");
                next.add(new Line(first.text(), house, number));
            }
        } catch (Fault f) {
            return f.code;
        }
        years = next;
        return 0;
    }

    int feed(long a, long b, long c) {
        for (long v : new long[] {a, b, c}) {
            for (int i = 7; i >= 0; i--) {
                int sign = (int) (v >> 8 * i & 255);
                if ((sign == 10 || sign >= 32 && sign < 127) && tape.length() < 1000) {
                    tape.append((char) sign);
                }
            }
        }
        return tape.length();
    }

    // ---- by hand

    private How begin() {
        How h = new How();
        int n = told.size();
        h.thick = new int[n];
        h.wet = new int[n];
        h.printed = new int[n];
        for (int i = 0; i < n; i++) {
            h.thick[i] = told.houses.get(i).thick;
            h.wet[i] = told.houses.get(i).wet;
            h.order.add(i);
        }
        h.gap = told.gap;
        return h;
    }

    private boolean isHouse(int h) {
        return h >= 0 && h < told.size();
    }

    private boolean goes(How w, int h) {
        return isHouse(h) && !w.road.contains(h);
    }

    private List<Integer> going(How w) {
        List<Integer> out = new ArrayList<>();
        for (int h = 0; h < told.size(); h++) {
            if (goes(w, h)) {
                out.add(h);
            }
        }
        return out;
    }

    private int aheadIn(List<Integer> row, How w, int house) {
        for (int p = row.indexOf(house) - 1; p >= 0; p--) {
            int h = row.get(p);
            if (goes(w, h) && !told.cat(h)) {
                return h;
            }
        }
        return NONE;
    }

    private int pressedOf(How w, int h) {
        int v;
        if (told.presses == null) {
            v = w.thick[h] > w.gap ? w.wet[h] : w.wet[h] / 2;
        } else {
            v = work(told.presses, Map.of("wide", w.thick[h], "damp", w.wet[h], "between", w.gap));
        }
        return Math.min(w.wet[h], Math.min(99, Math.max(0, v)));
    }

    private int printedBy(How w, int ahead, int h) {
        if (ahead == NONE || told.cat(h)) {
            return 0;
        }
        int v = told.houses.get(ahead).ink;
        if (told.prints != null) {
            v = work(told.prints, Map.of("wide", w.thick[h], "damp", w.wet[h], "between", w.gap,
                    "black", told.houses.get(ahead).ink, "wall", w.thick[ahead]));
        }
        return Math.min(9, Math.max(0, v));
    }

    /** Pints that came, and what was printed. */
    private int[] pass(How w) {
        int came = 0;
        int all = 0;
        for (int h : new ArrayList<>(w.order)) {
            if (!goes(w, h)) {
                continue;
            }
            int out = pressedOf(w, h);
            int print = printedBy(w, aheadIn(w.order, w, h), h);
            came += out;
            all += print;
            w.wet[h] -= out;
            w.pints = Math.min(999, w.pints + out);
            w.printed[h] = Math.min(99, w.printed[h] + print);
            if (told.houses.get(h).kind == 2) {
                w.gap = Math.min(20, w.gap + 1);
            } else if (told.houses.get(h).kind == 1 && w.thick[h] > w.gap) {
                w.thick[h]--;
            }
        }
        for (int h = 0; h < told.size(); h++) {
            w.wet[h] = Math.min(99, w.wet[h] + told.rains.get(w.fortnight % told.rains.size()));
            if (!goes(w, h)) {
                w.thick[h] = Math.min(20, w.thick[h] + 1);
            }
        }
        w.fortnight++;
        return new int[] {came, all};
    }

    private void place(How w, int house, int place) {
        w.order.remove(Integer.valueOf(house));
        w.order.add(place, house);
    }

    private void turn(How w, int house) {
        if (!w.road.remove(house)) {
            w.road.add(house);
        }
    }

    private void keep() {
        past.addLast(how.copy());
        if (past.size() > 16) {
            past.removeFirst();
        }
    }

    int house(int house, int what) {
        if (!isHouse(house)) {
            return NONE;
        }
        return switch (what) {
            case 0 -> told.houses.get(house).kind;
            case 1 -> how.thick[house];
            case 2 -> how.wet[house];
            case 3 -> told.houses.get(house).ink;
            case 4 -> how.printed[house];
            case 5 -> how.road.contains(house) ? 1 : 0;
            case 6 -> how.order.indexOf(house);
            default -> NONE;
        };
    }

    int order(int place) {
        return isHouse(place) ? how.order.get(place) : NONE;
    }

    int ahead(int house) {
        return goes(how, house) ? aheadIn(how.order, how, house) : NONE;
    }

    int pressed(int house) {
        return isHouse(house) ? pressedOf(how, house) : NONE;
    }

    int blot(int house, int other) {
        if (!isHouse(house) || !isHouse(other) || house == other || told.cat(house)) {
            return NONE;
        }
        return printedBy(how, house, other);
    }

    boolean put(int house, int place) {
        if (!isHouse(house) || !isHouse(place)) {
            return false;
        }
        keep();
        place(how, house, place);
        return true;
    }

    boolean road(int house) {
        if (!isHouse(house)) {
            return false;
        }
        keep();
        turn(how, house);
        return true;
    }

    int run() {
        keep();
        return pass(how)[0];
    }

    int sell(int pints) {
        if (pints < 1 || pints > 99 || how.pints < pints) {
            return NONE;
        }
        keep();
        how.pints -= pints;
        how.coins += pints * told.price;
        return how.coins;
    }

    boolean undo() {
        if (past.isEmpty()) {
            return false;
        }
        how = past.removeLast();
        return true;
    }

    // ---- asked

    private int shunnedIn(List<Integer> row, How w) {
        int n = 0;
        for (int h : row) {
            if (goes(w, h)) {
                int a = aheadIn(row, w, h);
                if (a != NONE && told.houses.get(h).shuns.contains(a)) {
                    n++;
                }
            }
        }
        return n;
    }

    int judged(int what) {
        if (what < 0 || what > 2) {
            return -2;
        }
        How w = begin();
        int broken = NONE;
        int behind = NONE;
        for (int i = 0; i < years.size(); i++) {
            Line l = years.get(i);
            boolean can = true;
            if (l.deed().equals("put")) {
                can = l.number() < told.size();
                if (can) {
                    place(w, l.house(), l.number());
                }
            } else if (l.deed().equals("road")) {
                turn(w, l.house());
            } else if (l.deed().equals("sell")) {
                can = w.pints >= l.number();
                if (can) {
                    w.pints -= l.number();
                    w.coins += l.number() * told.price;
                }
            } else {
                if (behind == NONE && shunnedIn(w.order, w) > 0) {
                    behind = i;
                }
                pass(w);
            }
            if (!can && broken == NONE) {
                broken = i;
            }
        }
        return what == 0 ? broken : what == 1 ? behind : w.coins;
    }

    int shunned() {
        return shunnedIn(how.order, how);
    }

    static List<List<Integer>> allRows(List<Integer> of) {
        List<List<Integer>> out = new ArrayList<>();
        if (of.isEmpty()) {
            out.add(new ArrayList<>());
        }
        for (Integer first : of) {
            List<Integer> others = new ArrayList<>(of);
            others.remove(first);
            for (List<Integer> tail : allRows(others)) {
                List<Integer> row = new ArrayList<>();
                row.add(first);
                row.addAll(tail);
                out.add(row);
            }
        }
        return out;
    }

    int best(int place) {
        if (place != NONE && !isHouse(place)) {
            return -2;
        }
        int n = told.size();
        int[][] prints = new int[n][n];
        for (int a = 0; a < n; a++) {
            for (int h = 0; h < n; h++) {
                prints[a][h] = printedBy(how, a, h);
            }
        }
        List<List<Integer>> rows = allRows(going(how));
        List<List<Integer>> free = new ArrayList<>();
        for (List<Integer> row : rows) {
            if (shunnedIn(row, how) == 0) {
                free.add(row);
            }
        }
        int least = Integer.MAX_VALUE;
        List<Integer> found = null;
        for (List<Integer> row : free.isEmpty() ? rows : free) {
            int sum = 0;
            for (int h : row) {
                int a = aheadIn(row, how, h);
                sum += a == NONE ? 0 : prints[a][h];
            }
            if (sum < least) {
                least = sum;
                found = new ArrayList<>(row);
            }
        }
        for (int h = 0; h < n; h++) {
            if (!goes(how, h)) {
                found.add(h);
            }
        }
        return place == NONE ? least : found.get(place);
    }

    int around() {
        int all = 0;
        for (int h : going(how)) {
            all |= 1 << h;
        }
        for (int many = 0; many <= 7; many++) {
            for (int set = 0; set < 128; set++) {
                if (Integer.bitCount(set) == many && (set & ~all) == 0 && canAllGo(all & ~set)) {
                    return set;
                }
            }
        }
        throw new IllegalStateException("nobody at all can always go");
    }

    private boolean canAllGo(int set) {
        List<Integer> of = new ArrayList<>();
        for (int h = 0; h < 7; h++) {
            if ((set >> h & 1) != 0) {
                of.add(h);
            }
        }
        for (List<Integer> row : allRows(of)) {
            if (shunnedIn(row, how) == 0) {
                return true;
            }
        }
        return false;
    }

    int till(int wet) {
        if (wet < 1 || wet > 693) {
            return NONE;
        }
        How w = how.copy();
        for (int r = 0; r <= 99; r++) {
            if (Arrays.stream(w.wet).sum() >= wet) {
                return r;
            }
            pass(w);
        }
        return NONE;
    }

    int dry(int wet) {
        if (wet < 0 || wet > 99) {
            return NONE;
        }
        How w = how.copy();
        for (int r = 0; r <= 99; r++) {
            for (int h : going(w)) {
                if (w.wet[h] <= wet) {
                    return r;
                }
            }
            pass(w);
        }
        return NONE;
    }

    boolean hear(int pints) {
        if (pints < 0 || pints > 693) {
            return false;
        }
        heard = pints;
        return true;
    }

    private List<Integer> fitting() {
        List<Integer> out = new ArrayList<>();
        int[] gives = new int[told.size()];
        for (int h = 0; h < told.size(); h++) {
            gives[h] = pressedOf(how, h);
        }
        for (int set = 0; set < 1 << told.size(); set++) {
            int sum = 0;
            boolean fits = true;
            for (int h = 0; h < told.size(); h++) {
                if ((set >> h & 1) != 0) {
                    fits &= goes(how, h);
                    sum += gives[h];
                }
            }
            if (fits && (heard == NONE || sum == heard)) {
                out.add(set);
            }
        }
        return out;
    }

    int sets(int what) {
        List<Integer> fit = fitting();
        if (what == 0) {
            return fit.size();
        }
        if (what < 0 || what > 2 || fit.isEmpty()) {
            return NONE;
        }
        int v = fit.get(0);
        for (int set : fit) {
            v = what == 1 ? v & set : v | set;
        }
        return v;
    }

    int look() {
        List<Integer> fit = fitting();
        int least = fit.size();
        int found = NONE;
        for (int h = 0; h < told.size(); h++) {
            int in = 0;
            for (int set : fit) {
                in += set >> h & 1;
            }
            if (in > 0 && in < fit.size() && Math.max(in, fit.size() - in) < least) {
                least = Math.max(in, fit.size() - in);
                found = h;
            }
        }
        return found;
    }

    boolean see(int house, int other) {
        if (!isHouse(house) || !isHouse(other) || house == other || seen.size() == 8) {
            return false;
        }
        seen.add(new int[] {house, other});
        return true;
    }

    private List<List<Integer>> possible() {
        List<Integer> all = new ArrayList<>();
        for (int h = 0; h < told.size(); h++) {
            all.add(h);
        }
        List<List<Integer>> out = new ArrayList<>();
        for (List<Integer> row : allRows(all)) {
            boolean fits = true;
            for (int[] s : seen) {
                fits &= row.indexOf(s[0]) < row.indexOf(s[1]);
            }
            if (fits) {
                out.add(row);
            }
        }
        return out;
    }

    int orders() {
        return possible().size();
    }

    int first(int place) {
        List<List<Integer>> rows = possible();
        return rows.isEmpty() || !isHouse(place) ? NONE : rows.get(0).get(place);
    }

    int ask() {
        List<List<Integer>> rows = possible();
        int least = rows.size();
        int found = NONE;
        for (int i = 0; i < told.size(); i++) {
            for (int j = i + 1; j < told.size(); j++) {
                int n = 0;
                for (List<Integer> row : rows) {
                    n += row.indexOf(i) < row.indexOf(j) ? 1 : 0;
                }
                if (Math.max(n, rows.size() - n) < least) {
                    least = Math.max(n, rows.size() - n);
                    found = i * 8 + j;
                }
            }
        }
        return found;
    }

    int share(int house) {
        if (!goes(how, house)) {
            return NONE;
        }
        int sum = 0;
        for (int width = 1; width <= how.thick[house]; width++) {
            final int least = width;
            sum += 1000 / (int) going(how).stream().filter(h -> how.thick[h] >= least).count();
        }
        return sum;
    }

    int pin(int odds, int times, int what) {
        List<Integer> in = going(how);
        if (odds < 0 || odds > 10 || times < 1 || times > 8 || what < 0 || what > 1 || in.isEmpty()) {
            throw new NoSuchElementException();
        }
        // Chances as whole numbers over sum * 10^searches, by BigInteger so that nothing is cut too soon.
        java.math.BigInteger[] up = new java.math.BigInteger[told.size()];
        int[] searches = new int[told.size()];
        int sum = 0;
        for (int h : in) {
            up[h] = java.math.BigInteger.valueOf(how.thick[h]);
            sum += how.thick[h];
        }
        int last = NONE;
        int chance = 0;
        for (int t = 0; t < times; t++) {
            last = NONE;
            for (int h : in) {
                if (last == NONE || scaled(up[h], searches[h], odds).compareTo(scaled(up[last], searches[last], odds)) > 0) {
                    last = h;
                }
            }
            java.math.BigInteger ten = java.math.BigInteger.TEN;
            chance += up[last].multiply(java.math.BigInteger.valueOf(odds * 1000000L))
                    .divide(ten.pow(searches[last] + 1).multiply(java.math.BigInteger.valueOf(sum))).intValue();
            up[last] = up[last].multiply(java.math.BigInteger.valueOf(10 - odds));
            searches[last]++;
        }
        return what == 0 ? last : chance;
    }

    private static java.math.BigInteger scaled(java.math.BigInteger up, int searches, int odds) {
        return up.multiply(java.math.BigInteger.TEN.pow(10 - searches)).multiply(java.math.BigInteger.valueOf(odds));
    }

    int rests(int one, int other, int what) {
        if (one < 0 || one > 9 || other < 0 || other > 9 || what < NONE) {
            throw new NoSuchElementException();
        }
        List<Integer> found = new ArrayList<>();
        for (int a = 0; a <= 9; a++) {
            for (int b = 0; b <= 9; b++) {
                int mostA = Integer.MIN_VALUE;
                int mostB = Integer.MIN_VALUE;
                for (int c = 0; c <= 9; c++) {
                    mostA = Math.max(mostA, c < b ? 0 : one - b);
                    mostB = Math.max(mostB, c > a ? other - a : 0);
                }
                if ((a < b ? 0 : one - b) == mostA && (b > a ? other - a : 0) == mostB) {
                    found.add(10 * a + b);
                }
            }
        }
        if (what >= found.size()) {
            throw new NoSuchElementException();
        }
        return what == NONE ? found.size() : found.get(what);
    }

    private long g;

    private int draw(int m) {
        g = (g * 1103515245L + 12345L) % (1L << 31);
        return (int) (g / 65536) % m;
    }

    int decades(int seed, int fortnights, int what) {
        if (seed < 0 || seed > 9999 || fortnights < 1 || fortnights > 99 || what < 0 || what > 2) {
            return NONE;
        }
        How w = how.copy();
        g = seed;
        int came = 0;
        int prints = 0;
        for (int f = 0; f < fortnights; f++) {
            if (told.size() > 0) {
                int h = draw(told.size());
                place(w, h, draw(told.size()));
                if (draw(4) == 0) {
                    turn(w, h);
                }
            }
            int[] r = pass(w);
            came += r[0];
            prints += r[1];
            if (w.pints >= 9) {
                w.pints -= 9;
                w.coins += 9 * told.price;
            }
        }
        return what == 0 ? came : what == 1 ? prints : w.coins - how.coins;
    }

    boolean mark(int mark, boolean back) {
        if (mark < 0 || mark > 3) {
            return false;
        }
        if (!back) {
            marks.put(mark, new Mark(how.copy(), years, heard, new ArrayList<>(seen)));
            return true;
        }
        Mark m = marks.get(mark);
        if (m == null) {
            return false;
        }
        how = m.how().copy();
        years = m.years();
        heard = m.heard();
        seen = new ArrayList<>(m.seen());
        past.clear();
        return true;
    }

    int count(int what) {
        return switch (what) {
            case 0 -> told.size();
            case 1 -> how.gap;
            case 2 -> told.price;
            case 3 -> how.fortnight;
            case 4 -> told.rains.get(how.fortnight % told.rains.size());
            case 5 -> how.road.stream().mapToInt(h -> 1 << h).sum();
            case 6 -> how.pints;
            case 7 -> how.coins;
            case 8 -> Arrays.stream(how.wet).sum();
            case 9 -> Arrays.stream(how.printed).sum();
            case 10 -> years.size();
            case 11 -> seen.size();
            case 12 -> heard;
            case 13 -> past.size();
            case 14 -> tape.length();
            default -> NONE;
        };
    }
}
