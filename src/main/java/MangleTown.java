import java.util.NoSuchElementException;

/** A town put through the mangle: told in a language, drawn through by hand, and asked about. */
public final class MangleTown {
    public static final int NONE = -1;

    private static final int NO_ANSWER = -2;
    private static final int MOST_SIGNS = 1000;
    private static final int MOST_HOUSES = 7;
    private static final int MOST_SETS = 128;
    private static final int MOST_THICK = 20;
    private static final int MOST_WET = 99;
    private static final int MOST_TOWN_WET = 693;
    private static final int MOST_SOLD = 99;
    private static final int MOST_RUNS = 99;
    private static final int MOST_PAST = 16;
    private static final int MARKS = 4;
    private static final int MOST_BID = 9;
    private static final int MOST_SEARCHES = 8;
    private static final int TEN = 10;
    private static final int MILLION = 1000000;
    // A weight loses a tenth's digit by each search: with 8 digits to spare every search stays exact.
    private static final long WEIGHT_UNIT = 100000000L;

    private final Tape tape = new Tape();

    private Town told = new Town();
    private Town draft = new Town();
    private final Years draftYears = new Years();

    private final State start = new State();
    private final Standing now = new Standing();
    private final State trial = new State();
    private final Standing[] marks = new Standing[MARKS];
    private final boolean[] laid = new boolean[MARKS];
    private final State[] past = new State[MOST_PAST];
    private int pastNext;
    private int pastKept;

    private final Mangle mangle = new Mangle();
    private final Rows rows = new Rows();
    private final Secrets secrets = new Secrets();
    private final long[] weights = new long[MOST_HOUSES];

    public MangleTown() {
        for (int i = 0; i < MARKS; i++) {
            marks[i] = new Standing();
        }
        for (int i = 0; i < MOST_PAST; i++) {
            past[i] = new State();
        }
        start.beginAs(told);
        now.beginAs(start);
    }

    public int feed(long a, long b, long c) {
        feedBytes(a);
        feedBytes(b);
        feedBytes(c);
        return tape.signs;
    }

    public int town() {
        tape.beginReading();
        if (!draft.readFrom(tape)) {
            return tape.fault;
        }
        Town elder = told;
        told = draft;
        draft = elder;
        start.beginAs(told);
        now.beginAs(start);
        pastKept = 0;
        for (int i = 0; i < MARKS; i++) {
            laid[i] = false;
        }
        return 0;
    }

    public int years() {
        tape.beginReading();
        if (!draftYears.readFrom(tape, told)) {
            return tape.fault;
        }
        now.years.copyFrom(draftYears);
        return 0;
    }

    public int house(int house, int what) {
        if (!isHouse(house)) {
            return NONE;
        }
        switch (what) {
            case 0: return told.kind[house];
            case 1: return now.state.thick[house];
            case 2: return now.state.wet[house];
            case 3: return told.ink[house];
            case 4: return now.state.printed[house];
            case 5: return now.state.goes(house) ? 0 : 1;
            case 6: return now.state.placeOf(house, told.houses);
            default: return NONE;
        }
    }

    public int order(int place) {
        return isHouse(place) ? now.state.row[place] : NONE;
    }

    public int ahead(int house) {
        return isGoing(house) ? now.state.nextAhead(told, house) : NONE;
    }

    public int pressed(int house) {
        return isHouse(house) ? told.pressedOut(now.state, house) : NONE;
    }

    public int blot(int house, int other) {
        if (!isHouse(house) || !isHouse(other) || house == other || told.isCat(house)) {
            return NONE;
        }
        return told.printedOn(now.state, house, other);
    }

    public boolean put(int house, int place) {
        if (!isHouse(house) || !isHouse(place)) {
            return false;
        }
        remember();
        return now.state.moveTo(house, place, told.houses);
    }

    public boolean road(int house) {
        if (!isHouse(house)) {
            return false;
        }
        remember();
        now.state.turnRoad(house);
        return true;
    }

    public int run() {
        remember();
        mangle.drawThrough(told, now.state);
        return mangle.cameOut;
    }

    public int sell(int pints) {
        if (pints < 1 || pints > MOST_SOLD || pints > now.state.pints) {
            return NONE;
        }
        remember();
        now.state.sellPints(pints, told.price);
        return now.state.coins;
    }

    public boolean undo() {
        if (pastKept == 0) {
            return false;
        }
        pastKept--;
        pastNext = (pastNext + MOST_PAST - 1) % MOST_PAST;
        now.state.copyFrom(past[pastNext]);
        return true;
    }

    public int judged(int what) {
        if (what < 0 || what > 2) {
            return NO_ANSWER;
        }
        trial.copyFrom(start);
        mangle.judge(told, now.years, trial);
        if (what == 2) {
            return trial.coins;
        }
        return what == 0 ? mangle.brokenLine : mangle.shunnedLine;
    }

    public int shunned() {
        return now.state.shunnedBy(told);
    }

    public int best(int place) {
        if (place != NONE && !isHouse(place)) {
            return NO_ANSWER;
        }
        rows.findBest(told, now.state);
        return place == NONE ? rows.bestTotal : rows.bestRow[place];
    }

    public int around() {
        return rows.leastRoad(told, now.state);
    }

    public int till(int wet) {
        if (wet < 1 || wet > MOST_TOWN_WET) {
            return NONE;
        }
        trial.copyFrom(now.state);
        for (int runs = 0; runs <= MOST_RUNS; runs++) {
            if (trial.allWet(told.houses) >= wet) {
                return runs;
            }
            mangle.drawThrough(told, trial);
        }
        return NONE;
    }

    public int dry(int wet) {
        if (wet < 0 || wet > MOST_WET) {
            return NONE;
        }
        trial.copyFrom(now.state);
        for (int runs = 0; runs <= MOST_RUNS; runs++) {
            if (trial.someGoesWithin(wet, told.houses)) {
                return runs;
            }
            mangle.drawThrough(told, trial);
        }
        return NONE;
    }

    public boolean hear(int pints) {
        if (pints < 0 || pints > MOST_TOWN_WET) {
            return false;
        }
        now.heard = pints;
        return true;
    }

    public int sets(int what) {
        secrets.weigh(told, now.state, now.heard);
        if (what == 0) {
            return secrets.sets;
        }
        if (what < 0 || what > 2 || secrets.sets == 0) {
            return NONE;
        }
        return what == 1 ? secrets.inAll : secrets.inSome;
    }

    public int look() {
        secrets.weigh(told, now.state, now.heard);
        return secrets.bestParting(told.houses);
    }

    public boolean see(int house, int other) {
        if (!isHouse(house) || !isHouse(other) || house == other) {
            return false;
        }
        return now.addSeen(house, other);
    }

    public int orders() {
        return rows.countOrders(now, told.houses);
    }

    public int first(int place) {
        if (!isHouse(place) || rows.countOrders(now, told.houses) == 0) {
            return NONE;
        }
        return rows.firstOrderAt(place, told.houses);
    }

    public int ask() {
        return rows.bestQuestion(now, told.houses);
    }

    public int share(int house) {
        if (!isGoing(house)) {
            return NONE;
        }
        int sum = 0;
        for (int width = 1; width <= now.state.thick[house]; width++) {
            // The house itself is one of these, but a divisor is looked at all the same.
            int payers = goingAsThick(width);
            if (payers > 0) {
                sum += 1000 / payers;
            }
        }
        return sum;
    }

    public int pin(int odds, int times, int what) throws NoSuchElementException {
        boolean asked = odds >= 0 && odds <= TEN && times >= 1 && times <= MOST_SEARCHES;
        int all = allGoingThickness();
        if (!asked || what < 0 || what > 1 || all == 0) {
            throw new NoSuchElementException("no such search for a pin");
        }
        weighHouses();
        int searched = NONE;
        int chance = 0;
        for (int time = 0; time < times; time++) {
            searched = likeliestFind(odds);
            if (searched != NONE) {
                chance += millionths(weights[searched] * odds, all);
                weights[searched] = weights[searched] / TEN * (TEN - odds);
            }
        }
        return what == 0 ? searched : chance;
    }

    public int rests(int one, int other, int what) throws NoSuchElementException {
        boolean asked = isBid(one) && isBid(other) && what >= NONE;
        int found = 0;
        int answer = NONE;
        for (int bids = 0; asked && bids < 100; bids++) {
            if (isRest(one, other, bids / TEN, bids % TEN)) {
                answer = found == what ? bids : answer;
                found++;
            }
        }
        if (!asked || what >= found) {
            throw new NoSuchElementException("no such rest");
        }
        return what == NONE ? found : answer;
    }

    public int decades(int seed, int fortnights, int what) {
        if (seed < 0 || seed > 9999 || fortnights < 1 || fortnights > 99 || what < 0 || what > 2) {
            return NONE;
        }
        trial.copyFrom(now.state);
        mangle.passDecades(told, trial, seed, fortnights);
        switch (what) {
            case 0: return mangle.cameInAll;
            case 1: return mangle.printedInAll;
            default: return trial.coins - now.state.coins;
        }
    }

    public boolean mark(int mark, boolean back) {
        if (mark < 0 || mark >= MARKS) {
            return false;
        }
        if (!back) {
            marks[mark].copyFrom(now);
            laid[mark] = true;
            return true;
        }
        if (!laid[mark]) {
            return false;
        }
        now.copyFrom(marks[mark]);
        pastKept = 0;
        return true;
    }

    public int count(int what) {
        State state = now.state;
        switch (what) {
            case 0: return told.houses;
            case 1: return state.gap;
            case 2: return told.price;
            case 3: return state.fortnight;
            case 4: return told.rainOf(state.fortnight);
            case 5: return state.roadSet;
            case 6: return state.pints;
            case 7: return state.coins;
            case 8: return state.allWet(told.houses);
            case 9: return state.allPrinted(told.houses);
            case 10: return now.years.lines;
            case 11: return now.seen;
            case 12: return now.heard;
            case 13: return pastKept;
            case 14: return tape.signs;
            default: return NONE;
        }
    }

    private void feedBytes(long bytes) {
        for (int shift = 56; shift >= 0; shift -= 8) {
            tape.addSign((int) (bytes >>> shift) & 255);
        }
    }

    // Places of the ORDER have the same bounds as the numbers of HOUSES.
    private boolean isHouse(int number) {
        return number >= 0 && number < told.houses;
    }

    private boolean isGoing(int house) {
        return isHouse(house) && now.state.goes(house);
    }

    private void remember() {
        past[pastNext].copyFrom(now.state);
        pastNext = (pastNext + 1) % MOST_PAST;
        pastKept = Math.min(pastKept + 1, MOST_PAST);
    }

    private int goingAsThick(int width) {
        int going = 0;
        for (int house = 0; house < told.houses; house++) {
            if (now.state.goes(house) && now.state.thick[house] >= width) {
                going++;
            }
        }
        return going;
    }

    private int allGoingThickness() {
        int all = 0;
        for (int house = 0; house < told.houses; house++) {
            if (now.state.goes(house)) {
                all += now.state.thick[house];
            }
        }
        return all;
    }

    private void weighHouses() {
        for (int house = 0; house < told.houses; house++) {
            weights[house] = now.state.thick[house] * WEIGHT_UNIT;
        }
    }

    // With no odds at all every house is equal, so odds count in what is compared.
    private int likeliestFind(int odds) {
        int likeliest = NONE;
        for (int house = 0; house < told.houses; house++) {
            boolean more = likeliest == NONE || weights[house] * odds > weights[likeliest] * odds;
            if (now.state.goes(house) && more) {
                likeliest = house;
            }
        }
        return likeliest;
    }

    private static int millionths(long weightByOdds, int all) {
        long whole = all * WEIGHT_UNIT * TEN;
        return whole > 0 ? (int) (weightByOdds * MILLION / whole) : 0;
    }

    private static boolean isBid(int bid) {
        return bid >= 0 && bid <= MOST_BID;
    }

    private static boolean isRest(int one, int other, int bid, int otherBid) {
        int gain = gainOfFirst(one, bid, otherBid);
        int otherGain = gainOfOther(other, bid, otherBid);
        for (int another = 0; another <= MOST_BID; another++) {
            if (gainOfFirst(one, another, otherBid) > gain || gainOfOther(other, bid, another) > otherGain) {
                return false;
            }
        }
        return true;
    }

    private static int gainOfFirst(int worth, int bid, int otherBid) {
        return bid >= otherBid ? worth - otherBid : 0;
    }

    private static int gainOfOther(int worth, int bid, int otherBid) {
        return otherBid > bid ? worth - bid : 0;
    }

    /** The words that the language knows; those that are not kept may be NAMES, too. */
    private enum Word {
        OTHER("", false),
        HOUSE("house", true), THICK("thick", true), WET("wet", true), INK("ink", true),
        SHUNS("shuns", true), GAP("gap", true), RAINS("rains", true), PRICE("price", true),
        PRESSES("presses", true), PRINTS("prints", true),
        PUT("put", true), ROAD("road", true), RUN("run", true), SELL("sell", true),
        PLAIN("plain", true), STOUT("stout", true), SHARP("sharp", true), CAT("cat", true),
        NOT("not", true), AND("and", true), OR("or", true),
        WIDE("wide", false), DAMP("damp", false), BETWEEN("between", false),
        BLACK("black", false), WALL("wall", false);

        /** A WORD is kept as one number, its letters being digits: 8 of 5 bits fit. */
        static final int BASE = 32;

        private static final Word[] ALL = values();

        final long letters;
        final boolean kept;

        Word(String text, boolean kept) {
            long packed = 0;
            for (int i = 0; i < text.length(); i++) {
                packed = packed * BASE + (text.charAt(i) - 'a' + 1);
            }
            this.letters = packed;
            this.kept = kept;
        }

        static Word spelled(long letters) {
            for (int i = 0; i < ALL.length; i++) {
                if (ALL[i].letters == letters) {
                    return ALL[i];
                }
            }
            return OTHER;
        }
    }

    /** The TAPE, read as tokens, one at a time, and the FAULT at which the reading ended. */
    private static final class Tape {
        static final int END = 0;
        static final int NOTHING = 1;
        static final int WORD = 2;
        static final int NUMBER = 3;
        static final int SIGN = 4;

        static final int CANNOT_STAND = 1;
        static final int NO_HOUSE = 2;
        static final int TOLD_ALREADY = 3;
        static final int NOT_AS_TOLD = 4;
        static final int TOO_MANY = 5;

        private static final String SIGNS = "()<=+-*;";
        private static final int LINE_END = 10;
        private static final int BLANK = 32;
        private static final int LAST_SIGN = 126;
        private static final int MOST_LETTERS = 8;
        private static final int MOST_DIGITS = 4;

        private final byte[] text = new byte[MOST_SIGNS];
        int signs;
        private int length;
        private int place;
        private int behind;
        int kind;
        Word word = Word.OTHER;
        long letters;
        int number;
        int taken;
        int fault;
        private int sign;

        void addSign(int fed) {
            boolean fits = fed == LINE_END || fed >= BLANK && fed <= LAST_SIGN;
            if (fits && signs < MOST_SIGNS) {
                text[signs] = (byte) fed;
                signs++;
            }
        }

        /** What is read is taken: the signs stay in the row only until others are fed. */
        void beginReading() {
            length = signs;
            signs = 0;
            behind = 0;
            fault = 0;
            advance();
        }

        void advance() {
            while (behind < length && (text[behind] == LINE_END || text[behind] == BLANK)) {
                behind++;
            }
            place = behind;
            word = Word.OTHER;
            int next = behind < length ? text[behind] : 0;
            if (behind >= length) {
                kind = END;
            } else if (next >= 'a' && next <= 'z') {
                readWord();
                word = kind == WORD ? Word.spelled(letters) : Word.OTHER;
            } else if (next >= '0' && next <= '9') {
                readNumber();
            } else {
                kind = SIGNS.indexOf((char) next) >= 0 ? SIGN : NOTHING;
                sign = next;
                behind++;
            }
        }

        private void readWord() {
            letters = 0;
            while (behind < length && text[behind] >= 'a' && text[behind] <= 'z') {
                letters = letters * Word.BASE + (text[behind] - 'a' + 1);
                behind++;
            }
            kind = behind - place <= MOST_LETTERS ? WORD : NOTHING;
        }

        private void readNumber() {
            number = 0;
            while (behind < length && text[behind] >= '0' && text[behind] <= '9') {
                number = number * TEN + (text[behind] - '0');
                behind++;
            }
            kind = behind - place <= MOST_DIGITS ? NUMBER : NOTHING;
        }

        /** Always false, so that a reader can end with it. */
        boolean fail(int faultKind) {
            fault = faultKind + 16 * place;
            return false;
        }

        boolean isName() {
            return kind == WORD && !word.kept;
        }

        boolean isSign(int asked) {
            return kind == SIGN && sign == asked;
        }

        boolean takeSign(int asked) {
            if (!isSign(asked)) {
                return fail(CANNOT_STAND);
            }
            advance();
            return true;
        }

        boolean takeWord(Word asked) {
            if (word != asked) {
                return fail(CANNOT_STAND);
            }
            advance();
            return true;
        }

        boolean takeNumber(int least, int most) {
            if (kind != NUMBER) {
                return fail(CANNOT_STAND);
            }
            if (number < least || number > most) {
                return fail(NOT_AS_TOLD);
            }
            taken = number;
            advance();
            return true;
        }
    }

    /** An E, kept as codes that work on a stack: a number stands for itself, all else is below 0. */
    private static final class Law {
        private static final int NOT = -1;
        private static final int TIMES = -2;
        private static final int PLUS = -3;
        private static final int MINUS = -4;
        private static final int LESS = -5;
        private static final int SAME = -6;
        private static final int AND = -7;
        private static final int OR = -8;
        private static final int WIDE = -9;
        private static final int DAMP = -10;
        private static final int BETWEEN = -11;
        private static final int BLACK = -12;
        private static final int WALL = -13;
        private static final int NO_CODE = -14;

        private static final int MOST_WITHIN = 5;
        // Each level keeps 4 left sides waiting at most.
        private static final int STACK = 4 * MOST_WITHIN + 4;

        private final boolean ofPrints;
        // A token is one sign at least and gives one code at most.
        private final int[] code = new int[MOST_SIGNS];
        private final int[] stack = new int[STACK];
        private int length;

        Law(boolean ofPrints) {
            this.ofPrints = ofPrints;
        }

        void forget() {
            length = 0;
        }

        boolean isTold() {
            return length > 0;
        }

        boolean readFrom(Tape tape) {
            length = 0;
            return readE(tape, 0);
        }

        private void add(int one) {
            if (length < MOST_SIGNS) {
                code[length] = one;
                length++;
            }
        }

        private boolean readE(Tape tape, int within) {
            if (!readTest(tape, within)) {
                return false;
            }
            for (int i = 0; i < MOST_SIGNS && (tape.word == Word.AND || tape.word == Word.OR); i++) {
                int joint = tape.word == Word.AND ? AND : OR;
                tape.advance();
                if (!readTest(tape, within)) {
                    return false;
                }
                add(joint);
            }
            return true;
        }

        private boolean readTest(Tape tape, int within) {
            if (!readSum(tape, within)) {
                return false;
            }
            if (!tape.isSign('<') && !tape.isSign('=')) {
                return true;
            }
            int joint = tape.isSign('<') ? LESS : SAME;
            tape.advance();
            if (!readSum(tape, within)) {
                return false;
            }
            add(joint);
            return true;
        }

        private boolean readSum(Tape tape, int within) {
            if (!readProduct(tape, within)) {
                return false;
            }
            for (int i = 0; i < MOST_SIGNS && (tape.isSign('+') || tape.isSign('-')); i++) {
                int joint = tape.isSign('+') ? PLUS : MINUS;
                tape.advance();
                if (!readProduct(tape, within)) {
                    return false;
                }
                add(joint);
            }
            return true;
        }

        private boolean readProduct(Tape tape, int within) {
            if (!readPart(tape, within)) {
                return false;
            }
            for (int i = 0; i < MOST_SIGNS && tape.isSign('*'); i++) {
                tape.advance();
                if (!readPart(tape, within)) {
                    return false;
                }
                add(TIMES);
            }
            return true;
        }

        private boolean readPart(Tape tape, int within) {
            int leaf = tape.kind == Tape.NUMBER ? tape.number : factCode(tape.word);
            boolean opens = tape.isSign('(');
            boolean turns = tape.word == Word.NOT;
            if (leaf == NO_CODE && !opens && !turns) {
                return tape.fail(Tape.CANNOT_STAND);
            }
            if (within >= MOST_WITHIN) {
                return tape.fail(Tape.TOO_MANY);
            }
            tape.advance();
            if (opens) {
                return readE(tape, within + 1) && tape.takeSign(')');
            }
            if (turns && !readPart(tape, within + 1)) {
                return false;
            }
            add(turns ? NOT : leaf);
            return true;
        }

        private int factCode(Word word) {
            switch (word) {
                case WIDE: return WIDE;
                case DAMP: return DAMP;
                case BETWEEN: return BETWEEN;
                case BLACK: return ofPrints ? BLACK : NO_CODE;
                case WALL: return ofPrints ? WALL : NO_CODE;
                default: return NO_CODE;
            }
        }

        int value(int wide, int damp, int between, int black, int wall) {
            int top = 0;
            for (int i = 0; i < length; i++) {
                int one = code[i];
                if (one == NOT && top >= 1) {
                    stack[top - 1] = stack[top - 1] == 0 ? 1 : 0;
                } else if (one < NOT && one >= OR && top >= 2) {
                    top--;
                    stack[top - 1] = joined(one, stack[top - 1], stack[top]);
                } else if (top < STACK) {
                    stack[top] = leafValue(one, wide, damp, between, black, wall);
                    top++;
                }
            }
            return top > 0 ? stack[0] : 0;
        }

        private static int leafValue(int one, int wide, int damp, int between, int black, int wall) {
            switch (one) {
                case WIDE: return wide;
                case DAMP: return damp;
                case BETWEEN: return between;
                case BLACK: return black;
                case WALL: return wall;
                default: return one;
            }
        }

        private static int joined(int joint, int left, int right) {
            switch (joint) {
                case TIMES: return left * right;
                case PLUS: return left + right;
                case MINUS: return left - right;
                case LESS: return left < right ? 1 : 0;
                case SAME: return left == right ? 1 : 0;
                case AND: return left != 0 && right != 0 ? 1 : 0;
                default: return left != 0 || right != 0 ? 1 : 0;
            }
        }
    }

    /** What is told of a TOWN: it stays as it is until another one is told. */
    private static final class Town {
        static final int STOUT = 1;
        static final int SHARP = 2;
        static final int CAT = 3;

        private static final int MOST_RAINS = 12;
        private static final int MOST_RAIN = 9;
        private static final int MOST_INK = 9;
        private static final int MOST_PRINTED = 9;
        private static final int MOST_PRICE = 99;

        private final long[] names = new long[MOST_HOUSES];
        final int[] kind = new int[MOST_HOUSES];
        final int[] thick = new int[MOST_HOUSES];
        final int[] wet = new int[MOST_HOUSES];
        final int[] ink = new int[MOST_HOUSES];
        private final int[] shunnedSet = new int[MOST_HOUSES];
        private final int[] rains = new int[MOST_RAINS];
        private final Law presses = new Law(false);
        private final Law prints = new Law(true);
        int houses;
        int gap;
        int price;
        private int rainsTold;
        private int onceTold;

        Town() {
            forgetAll();
        }

        private void forgetAll() {
            houses = 0;
            gap = 5;
            price = 3;
            rains[0] = 1;
            rainsTold = 1;
            presses.forget();
            prints.forget();
            onceTold = 0;
        }

        boolean isCat(int house) {
            return kind[house] == CAT;
        }

        boolean doesShun(int house, int other) {
            return (shunnedSet[house] >> other & 1) != 0;
        }

        int numberOf(long name) {
            for (int house = 0; house < houses; house++) {
                if (names[house] == name) {
                    return house;
                }
            }
            return NONE;
        }

        int rainOf(int fortnight) {
            return rainsTold > 0 ? rains[Math.floorMod(fortnight, rainsTold)] : 0;
        }

        int pressedOut(State state, int house) {
            int wide = state.thick[house];
            int damp = state.wet[house];
            int out = wide > state.gap ? damp : damp / 2;
            if (presses.isTold()) {
                out = presses.value(wide, damp, state.gap, 0, 0);
            }
            return Math.max(0, Math.min(out, damp));
        }

        int printedOn(State state, int ahead, int house) {
            if (isCat(house)) {
                return 0;
            }
            int black = ink[ahead];
            int print = black;
            if (prints.isTold()) {
                print = prints.value(state.thick[house], state.wet[house], state.gap, black, state.thick[ahead]);
            }
            return Math.max(0, Math.min(print, MOST_PRINTED));
        }

        boolean readFrom(Tape tape) {
            forgetAll();
            for (int line = 0; line < MOST_SIGNS && tape.kind != Tape.END; line++) {
                if (!readLine(tape) || !tape.takeSign(';')) {
                    return false;
                }
            }
            return true;
        }

        private boolean readLine(Tape tape) {
            switch (tape.word) {
                case HOUSE: return readHouse(tape);
                case SHUNS: return readShuns(tape);
                case GAP: return takeOnce(tape, 1) && readGap(tape);
                case RAINS: return takeOnce(tape, 2) && readRains(tape);
                case PRICE: return takeOnce(tape, 4) && readPrice(tape);
                case PRESSES: return takeOnce(tape, 8) && presses.readFrom(tape);
                case PRINTS: return takeOnce(tape, 16) && prints.readFrom(tape);
                default: return tape.fail(Tape.CANNOT_STAND);
            }
        }

        private boolean takeOnce(Tape tape, int bit) {
            if ((onceTold & bit) != 0) {
                return tape.fail(Tape.TOLD_ALREADY);
            }
            onceTold |= bit;
            tape.advance();
            return true;
        }

        private boolean readHouse(Tape tape) {
            if (houses >= MOST_HOUSES) {
                return tape.fail(Tape.TOO_MANY);
            }
            tape.advance();
            if (!tape.isName()) {
                return tape.fail(Tape.CANNOT_STAND);
            }
            if (numberOf(tape.letters) != NONE) {
                return tape.fail(Tape.TOLD_ALREADY);
            }
            names[houses] = tape.letters;
            tape.advance();
            kind[houses] = kindOf(tape.word);
            if (kind[houses] == NONE) {
                return tape.fail(Tape.CANNOT_STAND);
            }
            tape.advance();
            shunnedSet[houses] = 0;
            boolean measured = readMeasure(tape, Word.THICK, thick, 1, MOST_THICK)
                    && readMeasure(tape, Word.WET, wet, 0, MOST_WET)
                    && readMeasure(tape, Word.INK, ink, 0, MOST_INK);
            houses += measured ? 1 : 0;
            return measured;
        }

        private static int kindOf(Word word) {
            switch (word) {
                case PLAIN: return 0;
                case STOUT: return STOUT;
                case SHARP: return SHARP;
                case CAT: return CAT;
                default: return NONE;
            }
        }

        private boolean readMeasure(Tape tape, Word word, int[] measures, int least, int most) {
            if (!tape.takeWord(word) || !tape.takeNumber(least, most)) {
                return false;
            }
            measures[houses] = tape.taken;
            return true;
        }

        private boolean readShuns(Tape tape) {
            tape.advance();
            int house = houseNamed(tape);
            if (house == NONE) {
                return false;
            }
            tape.advance();
            int other = houseNamed(tape);
            if (other == NONE) {
                return false;
            }
            if (house == other || doesShun(house, other)) {
                return tape.fail(Tape.TOLD_ALREADY);
            }
            shunnedSet[house] |= 1 << other;
            tape.advance();
            return true;
        }

        /** The HOUSE whose NAME the token is; NONE with the FAULT if it is none. */
        int houseNamed(Tape tape) {
            if (!tape.isName()) {
                tape.fail(Tape.CANNOT_STAND);
                return NONE;
            }
            int house = numberOf(tape.letters);
            if (house == NONE) {
                tape.fail(Tape.NO_HOUSE);
            }
            return house;
        }

        private boolean readGap(Tape tape) {
            if (!tape.takeNumber(1, MOST_THICK)) {
                return false;
            }
            gap = tape.taken;
            return true;
        }

        private boolean readPrice(Tape tape) {
            if (!tape.takeNumber(0, MOST_PRICE)) {
                return false;
            }
            price = tape.taken;
            return true;
        }

        private boolean readRains(Tape tape) {
            rainsTold = 0;
            for (int i = 0; i <= MOST_RAINS && (i == 0 || tape.kind == Tape.NUMBER); i++) {
                // A number that is not as told is the lesser fault, so it is seen to ahead of this.
                if (rainsTold >= MOST_RAINS && tape.number <= MOST_RAIN) {
                    return tape.fail(Tape.TOO_MANY);
                }
                if (!tape.takeNumber(0, MOST_RAIN)) {
                    return false;
                }
                rains[rainsTold] = tape.taken;
                rainsTold++;
            }
            return true;
        }
    }

    /** The YEARS: lines of what is done. */
    private static final class Years {
        static final int PUT = 0;
        static final int ROAD = 1;
        static final int RUN = 2;
        static final int SELL = 3;

        private static final int MOST_LINES = 40;
        private static final int MOST_PLACE = 6;

        final int[] deed = new int[MOST_LINES];
        final int[] house = new int[MOST_LINES];
        final int[] number = new int[MOST_LINES];
        int lines;

        void copyFrom(Years other) {
            lines = other.lines;
            System.arraycopy(other.deed, 0, deed, 0, MOST_LINES);
            System.arraycopy(other.house, 0, house, 0, MOST_LINES);
            System.arraycopy(other.number, 0, number, 0, MOST_LINES);
        }

        boolean readFrom(Tape tape, Town town) {
            lines = 0;
            for (int line = 0; line <= MOST_LINES && tape.kind != Tape.END; line++) {
                if (!readLine(tape, town) || !tape.takeSign(';')) {
                    return false;
                }
            }
            return true;
        }

        private boolean readLine(Tape tape, Town town) {
            int told = deedOf(tape.word);
            if (told == NONE) {
                return tape.fail(Tape.CANNOT_STAND);
            }
            if (lines >= MOST_LINES) {
                return tape.fail(Tape.TOO_MANY);
            }
            tape.advance();
            deed[lines] = told;
            if ((told == PUT || told == ROAD) && !readHouse(tape, town)) {
                return false;
            }
            if (told == PUT && !readNumber(tape, 0, MOST_PLACE)) {
                return false;
            }
            if (told == SELL && !readNumber(tape, 1, MOST_SOLD)) {
                return false;
            }
            lines++;
            return true;
        }

        private static int deedOf(Word word) {
            switch (word) {
                case PUT: return PUT;
                case ROAD: return ROAD;
                case RUN: return RUN;
                case SELL: return SELL;
                default: return NONE;
            }
        }

        private boolean readHouse(Tape tape, Town town) {
            house[lines] = town.houseNamed(tape);
            if (house[lines] == NONE) {
                return false;
            }
            tape.advance();
            return true;
        }

        private boolean readNumber(Tape tape, int least, int most) {
            if (!tape.takeNumber(least, most)) {
                return false;
            }
            number[lines] = tape.taken;
            return true;
        }
    }

    /** All that PUT, ROAD, RUN and SELL can change. */
    private static final class State {
        private static final int MOST_PINTS = 999;
        private static final int MOST_PRINTED = 99;

        final int[] thick = new int[MOST_HOUSES];
        final int[] wet = new int[MOST_HOUSES];
        final int[] printed = new int[MOST_HOUSES];
        final int[] row = new int[MOST_HOUSES];
        int roadSet;
        int gap;
        int fortnight;
        int pints;
        int coins;

        void beginAs(Town town) {
            for (int house = 0; house < MOST_HOUSES; house++) {
                thick[house] = town.thick[house];
                wet[house] = town.wet[house];
                printed[house] = 0;
                row[house] = house;
            }
            roadSet = 0;
            gap = town.gap;
            fortnight = 0;
            pints = 0;
            coins = 0;
        }

        void copyFrom(State other) {
            System.arraycopy(other.thick, 0, thick, 0, MOST_HOUSES);
            System.arraycopy(other.wet, 0, wet, 0, MOST_HOUSES);
            System.arraycopy(other.printed, 0, printed, 0, MOST_HOUSES);
            System.arraycopy(other.row, 0, row, 0, MOST_HOUSES);
            roadSet = other.roadSet;
            gap = other.gap;
            fortnight = other.fortnight;
            pints = other.pints;
            coins = other.coins;
        }

        boolean goes(int house) {
            return (roadSet >> house & 1) == 0;
        }

        int goingSet(int houses) {
            return (1 << houses) - 1 & ~roadSet;
        }

        int placeOf(int house, int houses) {
            for (int place = 0; place < houses; place++) {
                if (row[place] == house) {
                    return place;
                }
            }
            return NONE;
        }

        int nextAhead(Town town, int house) {
            int ahead = NONE;
            for (int place = 0; place < town.houses && row[place] != house; place++) {
                if (goes(row[place]) && !town.isCat(row[place])) {
                    ahead = row[place];
                }
            }
            return ahead;
        }

        int shunnedBy(Town town) {
            int shunning = 0;
            int ahead = NONE;
            for (int place = 0; place < town.houses; place++) {
                int house = row[place];
                if (goes(house)) {
                    shunning += ahead != NONE && town.doesShun(house, ahead) ? 1 : 0;
                    ahead = town.isCat(house) ? ahead : house;
                }
            }
            return shunning;
        }

        boolean moveTo(int house, int place, int houses) {
            int from = placeOf(house, houses);
            if (from == NONE || place < 0 || place >= houses) {
                return false;
            }
            for (int i = from; i < place; i++) {
                row[i] = row[i + 1];
            }
            for (int i = from; i > place; i--) {
                row[i] = row[i - 1];
            }
            row[place] = house;
            return true;
        }

        void turnRoad(int house) {
            roadSet ^= 1 << house;
        }

        boolean sellPints(int sold, int price) {
            if (sold > pints) {
                return false;
            }
            pints -= sold;
            coins += sold * price;
            return true;
        }

        void takeOut(int house, int out) {
            wet[house] -= out;
            pints = Math.min(pints + out, MOST_PINTS);
        }

        void printOn(int house, int print) {
            printed[house] = Math.min(printed[house] + print, MOST_PRINTED);
        }

        void rainOn(int house, int rain) {
            wet[house] = Math.min(wet[house] + rain, MOST_WET);
            if (!goes(house)) {
                thick[house] = Math.min(thick[house] + 1, MOST_THICK);
            }
        }

        int allWet(int houses) {
            int all = 0;
            for (int house = 0; house < houses; house++) {
                all += wet[house];
            }
            return all;
        }

        int allPrinted(int houses) {
            int all = 0;
            for (int house = 0; house < houses; house++) {
                all += printed[house];
            }
            return all;
        }

        boolean someGoesWithin(int mostWet, int houses) {
            for (int house = 0; house < houses; house++) {
                if (goes(house) && wet[house] <= mostWet) {
                    return true;
                }
            }
            return false;
        }
    }

    /** What a MARK holds: how it is, the YEARS, what is HEARD, SEEN. */
    private static final class Standing {
        private static final int MOST_SEEN = 8;

        final State state = new State();
        final Years years = new Years();
        final int[] seenAhead = new int[MOST_SEEN];
        final int[] seenBehind = new int[MOST_SEEN];
        int seen;
        int heard = NONE;

        void beginAs(State start) {
            state.copyFrom(start);
            years.lines = 0;
            seen = 0;
            heard = NONE;
        }

        void copyFrom(Standing other) {
            state.copyFrom(other.state);
            years.copyFrom(other.years);
            System.arraycopy(other.seenAhead, 0, seenAhead, 0, MOST_SEEN);
            System.arraycopy(other.seenBehind, 0, seenBehind, 0, MOST_SEEN);
            seen = other.seen;
            heard = other.heard;
        }

        boolean addSeen(int house, int other) {
            if (seen >= MOST_SEEN) {
                return false;
            }
            seenAhead[seen] = house;
            seenBehind[seen] = other;
            seen++;
            return true;
        }
    }

    /** The mill: RUNS, and what is made of many of them. */
    private static final class Mangle {
        private static final int POURED = 9;

        int cameOut;
        private int blotted;
        int brokenLine;
        int shunnedLine;
        int cameInAll;
        int printedInAll;
        private long drawn;

        void drawThrough(Town town, State state) {
            cameOut = 0;
            blotted = 0;
            int ahead = NONE;
            for (int place = 0; place < town.houses; place++) {
                int house = state.row[place];
                if (state.goes(house)) {
                    pressOne(town, state, ahead, house);
                    ahead = town.isCat(house) ? ahead : house;
                }
            }
            int rain = town.rainOf(state.fortnight);
            for (int house = 0; house < town.houses; house++) {
                state.rainOn(house, rain);
            }
            state.fortnight++;
        }

        // Printed is told before its wet goes: damp is as it was ahead of the pressing.
        private void pressOne(Town town, State state, int ahead, int house) {
            int out = town.pressedOut(state, house);
            int print = ahead == NONE ? 0 : town.printedOn(state, ahead, house);
            state.takeOut(house, out);
            state.printOn(house, print);
            cameOut += out;
            blotted += print;
            if (town.kind[house] == Town.SHARP) {
                state.gap = Math.min(state.gap + 1, MOST_THICK);
            }
            if (town.kind[house] == Town.STOUT && state.thick[house] > state.gap) {
                state.thick[house]--;
            }
        }

        void judge(Town town, Years years, State trial) {
            brokenLine = NONE;
            shunnedLine = NONE;
            for (int line = 0; line < years.lines; line++) {
                if (years.deed[line] == Years.RUN && shunnedLine == NONE && trial.shunnedBy(town) > 0) {
                    shunnedLine = line;
                }
                if (!follow(town, years, line, trial) && brokenLine == NONE) {
                    brokenLine = line;
                }
            }
        }

        private boolean follow(Town town, Years years, int line, State trial) {
            switch (years.deed[line]) {
                case Years.PUT:
                    return trial.moveTo(years.house[line], years.number[line], town.houses);
                case Years.ROAD:
                    trial.turnRoad(years.house[line]);
                    return true;
                case Years.SELL:
                    return trial.sellPints(years.number[line], town.price);
                default:
                    drawThrough(town, trial);
                    return true;
            }
        }

        void passDecades(Town town, State trial, int seed, int fortnights) {
            drawn = seed;
            cameInAll = 0;
            printedInAll = 0;
            for (int fortnight = 0; fortnight < fortnights; fortnight++) {
                if (town.houses > 0) {
                    shuffle(town, trial);
                }
                drawThrough(town, trial);
                cameInAll += cameOut;
                printedInAll += blotted;
                trial.sellPints(POURED, town.price);
            }
        }

        private void shuffle(Town town, State trial) {
            int house = drawBelow(town.houses);
            int place = drawBelow(town.houses);
            trial.moveTo(house, place, town.houses);
            if (drawBelow(4) == 0) {
                trial.turnRoad(house);
            }
        }

        private int drawBelow(int bound) {
            drawn = (drawn * 1103515245L + 12345L) % 2147483648L;
            return bound > 0 ? (int) (drawn / 65536L % bound) : 0;
        }
    }

    /** What is asked of all rows of houses, by sets of those that stand in a row already. */
    private static final class Rows {
        private static final int NOBODY = MOST_HOUSES;
        private static final int LASTS = MOST_HOUSES + 1;
        private static final int NO_WAY = 9999;

        final int[] bestRow = new int[MOST_HOUSES];
        int bestTotal;
        private final int[] blots = new int[LASTS * MOST_HOUSES];
        private final int[] rest = new int[MOST_SETS * LASTS];
        private final int[] lastsOf = new int[MOST_SETS];
        private final int[] ways = new int[MOST_SETS];
        private final int[] mustBeAhead = new int[MOST_HOUSES];

        int leastRoad(Town town, State state) {
            findLasts(town);
            int going = state.goingSet(town.houses);
            int least = going;
            for (int set = going; set >= 0; set--) {
                boolean fits = (set & ~going) == 0 && lastsOf[going & ~set] != 0;
                // Sets come from the greatest down, so of as many the last one found is the least.
                if (fits && Integer.bitCount(set) <= Integer.bitCount(least)) {
                    least = set;
                }
            }
            return least;
        }

        /** For each set, who can be the one ahead of what comes behind it, if none in it is SHUNNED. */
        private void findLasts(Town town) {
            int sets = 1 << town.houses;
            lastsOf[0] = 1 << NOBODY;
            for (int set = 1; set < sets; set++) {
                lastsOf[set] = 0;
                for (int house = 0; house < town.houses; house++) {
                    if ((set >> house & 1) != 0) {
                        lastsOf[set] |= lastsBehind(town, lastsOf[set ^ 1 << house], house);
                    }
                }
            }
        }

        private static int lastsBehind(Town town, int lasts, int house) {
            int borne = 0;
            for (int last = 0; last < LASTS; last++) {
                if ((lasts >> last & 1) != 0 && !shunsLast(town, house, last)) {
                    borne |= 1 << last;
                }
            }
            if (town.isCat(house)) {
                return borne;
            }
            return borne != 0 ? 1 << house : 0;
        }

        private static boolean shunsLast(Town town, int house, int last) {
            return last != NOBODY && town.doesShun(house, last);
        }

        void findBest(Town town, State state) {
            findLasts(town);
            findBlots(town, state);
            int going = state.goingSet(town.houses);
            boolean unshunned = lastsOf[going] != 0;
            for (int set = going; set >= 0; set--) {
                if ((set & ~going) == 0) {
                    findRest(town, set, going, unshunned);
                }
            }
            bestTotal = rest[NOBODY];
            layBestRow(town, going, unshunned);
        }

        private void findBlots(Town town, State state) {
            for (int house = 0; house < town.houses; house++) {
                for (int last = 0; last < town.houses; last++) {
                    blots[last * MOST_HOUSES + house] = town.printedOn(state, last, house);
                }
                blots[NOBODY * MOST_HOUSES + house] = 0;
            }
        }

        /** The least that is PRINTED on those that go and are not in the set yet, for each last one. */
        private void findRest(Town town, int set, int going, boolean unshunned) {
            for (int last = 0; last < LASTS; last++) {
                int least = set == going ? 0 : NO_WAY;
                for (int house = 0; house < town.houses; house++) {
                    if ((going & ~set & 1 << house) != 0) {
                        least = Math.min(least, restBy(town, set, last, house, unshunned));
                    }
                }
                rest[set * LASTS + last] = least;
            }
        }

        private int restBy(Town town, int set, int last, int house, boolean unshunned) {
            if (unshunned && shunsLast(town, house, last)) {
                return NO_WAY;
            }
            int next = town.isCat(house) ? last : house;
            return blots[last * MOST_HOUSES + house] + rest[(set | 1 << house) * LASTS + next];
        }

        private void layBestRow(Town town, int going, boolean unshunned) {
            int set = 0;
            int last = NOBODY;
            int laid = 0;
            for (int step = 0; step < town.houses && set != going; step++) {
                int house = firstOfLeast(town, set, last, going, unshunned);
                if (house != NONE) {
                    bestRow[laid] = house;
                    laid++;
                    set |= 1 << house;
                    last = town.isCat(house) ? last : house;
                }
            }
            for (int house = 0; house < town.houses; house++) {
                if ((going >> house & 1) == 0 && laid < MOST_HOUSES) {
                    bestRow[laid] = house;
                    laid++;
                }
            }
        }

        private int firstOfLeast(Town town, int set, int last, int going, boolean unshunned) {
            for (int house = 0; house < town.houses; house++) {
                boolean free = (going & ~set & 1 << house) != 0;
                if (free && restBy(town, set, last, house, unshunned) == rest[set * LASTS + last]) {
                    return house;
                }
            }
            return NONE;
        }

        int countOrders(Standing standing, int houses) {
            for (int house = 0; house < houses; house++) {
                mustBeAhead[house] = 0;
            }
            for (int i = 0; i < standing.seen; i++) {
                mustBeAhead[standing.seenBehind[i]] |= 1 << standing.seenAhead[i];
            }
            return countWays(houses);
        }

        private int countWays(int houses) {
            int sets = 1 << houses;
            ways[0] = 1;
            for (int set = 1; set < sets; set++) {
                ways[set] = 0;
                for (int house = 0; house < houses; house++) {
                    int others = set & ~(1 << house);
                    if (others != set && (mustBeAhead[house] & ~others) == 0) {
                        ways[set] += ways[others];
                    }
                }
            }
            return ways[sets - 1];
        }

        /** Behind countOrders, which answered that there is an ORDER: so the first free one will do. */
        int firstOrderAt(int asked, int houses) {
            int set = 0;
            int chosen = NONE;
            for (int place = 0; place <= asked; place++) {
                chosen = firstFree(set, houses);
                set |= chosen == NONE ? 0 : 1 << chosen;
            }
            return chosen;
        }

        private int firstFree(int set, int houses) {
            for (int house = 0; house < houses; house++) {
                if ((set >> house & 1) == 0 && (mustBeAhead[house] & ~set) == 0) {
                    return house;
                }
            }
            return NONE;
        }

        int bestQuestion(Standing standing, int houses) {
            int all = countOrders(standing, houses);
            int least = all;
            int question = NONE;
            for (int one = 0; one < houses; one++) {
                for (int other = one + 1; other < houses; other++) {
                    int greater = greaterPart(one, other, all, houses);
                    if (greater < least) {
                        least = greater;
                        question = one * 8 + other;
                    }
                }
            }
            return question;
        }

        private int greaterPart(int one, int other, int all, int houses) {
            int kept = mustBeAhead[other];
            mustBeAhead[other] |= 1 << one;
            int oneAhead = countWays(houses);
            mustBeAhead[other] = kept;
            return Math.max(oneAhead, all - oneAhead);
        }
    }

    /** The SETS by which what is HEARD can be. */
    private static final class Secrets {
        int sets;
        int inAll;
        int inSome;
        private final int[] given = new int[MOST_HOUSES];
        private final int[] timesIn = new int[MOST_HOUSES];

        void weigh(Town town, State state, int heard) {
            int going = state.goingSet(town.houses);
            sets = 0;
            inAll = going;
            inSome = 0;
            for (int house = 0; house < town.houses; house++) {
                given[house] = town.pressedOut(state, house);
                timesIn[house] = 0;
            }
            for (int set = 0; set <= going; set++) {
                boolean fits = (set & ~going) == 0;
                if (fits && (heard == NONE || sumOf(set, town.houses) == heard)) {
                    keep(set, town.houses);
                }
            }
        }

        private int sumOf(int set, int houses) {
            int sum = 0;
            for (int house = 0; house < houses; house++) {
                sum += (set >> house & 1) != 0 ? given[house] : 0;
            }
            return sum;
        }

        private void keep(int set, int houses) {
            sets++;
            inAll &= set;
            inSome |= set;
            for (int house = 0; house < houses; house++) {
                timesIn[house] += set >> house & 1;
            }
        }

        int bestParting(int houses) {
            int least = sets;
            int parting = NONE;
            for (int house = 0; house < houses; house++) {
                int greater = Math.max(timesIn[house], sets - timesIn[house]);
                if (greater < least) {
                    least = greater;
                    parting = house;
                }
            }
            return parting;
        }
    }
}
