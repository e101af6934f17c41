/** Boundaries of promises 1 and 2: a new object, the tape, tokens. One test for each sentence. */
public final class EdgeTapeTest {
    private static final Edges e = new Edges();

    public static void main(String[] args) {
        nothingTold();
        nothingToldAsked();
        nothingToldRefused();
        callsAtMost();
        signsThatCount();
        upTo24();
        highestFirst();
        thousandSigns();
        thousandCutsAFeed();
        othersTakeNoRoom();
        readingTakes();
        readingTakesForGood();
        longAsCanBe();
        blanksBetween();
        wordLetters();
        wordEight();
        wordLongest();
        numberDigits();
        numberLongest();
        numberThenLetter();
        signsThatStand();
        endOfText();
        endOfFullTape();
        e.end();
    }

    private static void town(String text, int want) {
        e.town(text, want);
    }

    private static String named(String name) {
        return "house " + name + " cat thick 1 wet 0 ink 0;";
    }

    /** Promise 1: "MangleTown(): Nothing."; Terms: "At first: nothing." */
    private static void nothingTold() {
        MangleTown x = new MangleTown();
        int[] want = {0, 5, 3, 0, 1, 0, 0, 0, 0, 0, 0, 0, -1, 0, 0};
        for (int what = 0; what < want.length; what++) {
            e.due("P1 count " + what, x.count(what), want[what]);
        }
        for (int what = 0; what <= 6; what++) {
            e.due("P1 house 0, " + what, x.house(0, what), -1);
        }
        e.due("P1 order", x.order(0), -1);
        e.due("P1 ahead", x.ahead(0), -1);
        e.due("P1 pressed", x.pressed(0), -1);
        e.due("P1 blot", x.blot(0, 1), -1);
        e.due("P1 share", x.share(0), -1);
    }

    /** Promise 1: "Nothing.", of what is asked of all. */
    private static void nothingToldAsked() {
        MangleTown x = new MangleTown();
        e.due("P1 judged 0", x.judged(0), -1);
        e.due("P1 judged 1", x.judged(1), -1);
        e.due("P1 judged 2", x.judged(2), 0);
        e.due("P1 shunned", x.shunned(), 0);
        e.due("P1 best, how much", x.best(-1), 0);
        e.due("P1 best, who", x.best(0), -2);
        e.due("P1 around", x.around(), 0);
        e.due("P1 till", x.till(1), -1);
        e.due("P1 dry", x.dry(99), -1);
        e.due("P1 sets: the empty one", x.sets(0), 1);
        e.due("P1 in all", x.sets(1), 0);
        e.due("P1 in some", x.sets(2), 0);
        e.due("P1 look", x.look(), -1);
        e.due("P1 orders: the empty row", x.orders(), 1);
        e.due("P1 first", x.first(0), -1);
        e.due("P1 ask", x.ask(), -1);
        e.noSuch("P1 pin", () -> x.pin(5, 1, 0));
        e.due("P1 rests", x.rests(9, 0, -1), 56);
        for (int what = 0; what <= 2; what++) {
            e.due("P1 decades " + what, x.decades(1, 99, what), 0);
        }
    }

    /** Promise 1: "Nothing.": of what is done by hand only a run, of what is told all that names no house. */
    private static void nothingToldRefused() {
        e.leaves("P1 put", 0, MangleTown::new, x -> Edges.bit(x.put(0, 0)));
        e.leaves("P1 road", 0, MangleTown::new, x -> Edges.bit(x.road(0)));
        e.leaves("P1 sell", -1, MangleTown::new, x -> x.sell(1));
        e.leaves("P1 undo", 0, MangleTown::new, x -> Edges.bit(x.undo()));
        e.leaves("P1 see", 0, MangleTown::new, x -> Edges.bit(x.see(0, 1)));
        e.leaves("P1 mark", 0, MangleTown::new, x -> Edges.bit(x.mark(0, true)));
        e.leaves("P1 town of no signs", 0, MangleTown::new, x -> x.town());
        e.leaves("P1 years of no signs", 0, MangleTown::new, x -> x.years());
        e.does("P1 run", 0, MangleTown::new, x -> x.run());
    }

    /** What it is: "An object is used for at most 512 calls after it has been made": the last one, too. */
    private static void callsAtMost() {
        MangleTown x = new MangleTown();
        for (int i = 1; i <= 511; i++) {
            x.run();
        }
        e.due("the 512th call", x.count(3), 511);
    }

    /** Promise 2: "others than 10 and 32 .. 126 [..] are left out". */
    private static void signsThatCount() {
        MangleTown x = new MangleTown();
        int kept = 0;
        for (int sign = 0; sign < 256; sign++) {
            kept += sign == 10 || sign >= 32 && sign <= 126 ? 1 : 0;
            e.due("P2 sign " + sign, x.feed(0, (long) sign << 24, 0), kept);
        }
        e.due("P2 on the tape", x.count(14), 96);
        MangleTown y = new MangleTown();
        e.due("P2 10 and 32 are kept, 9, 11, 31 are not", y.feed(0x090A0B1F20L, 0, 0), 2);
        e.due("P2 126 is kept, 127, 128, 255 are not", y.feed(0x7E7F80FFL, -1L, Long.MIN_VALUE), 3);
        e.due("P2 the 126 stands behind two blanks", y.town(), Edges.at(1, 2));
    }

    /** Promise 2: "Up to 24 signs come behind the TAPE [..]: how many there are." */
    private static void upTo24() {
        long eight = 0x2020202020202020L;
        MangleTown x = new MangleTown();
        e.due("P2 none", x.feed(0, 0, 0), 0);
        e.due("P2 one", x.feed(0, 0, 0x20), 1);
        e.due("P2 24 more", x.feed(eight, eight, eight), 25);
        e.due("P2 none more", x.feed(0, 0, 0), 25);
        e.due("P2 counted", x.count(14), 25);
    }

    /** Promise 2: "the bytes of a, b, c, of each the highest first". */
    private static void highestFirst() {
        MangleTown x = new MangleTown();
        // "gap", " 1", "7;" by a, b, c, with a 0 between.
        e.due("P2 7 signs", x.feed(0x6700000000006170L, 0x2000000000000031L, 0x3700000000003B00L), 7);
        e.due("P2 gap 17;", x.town(), 0);
        e.due("P2 17", x.count(1), 17);
    }

    private static MangleTown blanks(int many) {
        MangleTown x = new MangleTown();
        Checks.feed(x, " ".repeat(many));
        return x;
    }

    /** Terms: "The TAPE has at most 1,000 signs"; promise 2: "what is beyond 1,000 [is] left out". */
    private static void thousandSigns() {
        MangleTown x = blanks(999);
        e.due("P2 999", x.count(14), 999);
        e.due("P2 the 1,000th", x.feed(0, 0, 0x3B), 1000);
        e.due("P2 no 1,001st", x.feed(0x3B, 0x3B, 0x3B), 1000);
        e.due("P2 counted", x.count(14), 1000);
        e.due("P2 the 1,000th is the last", x.town(), Edges.at(1, 999));
        e.due("P2 then from 0", x.feed(0, 0, 0x20), 1);
        e.leaves("P2 a full tape", 1000, () -> {
            MangleTown y = blanks(993);
            Checks.feed(y, "gap 17;");
            return y;
        }, y -> y.feed(Checks.bytes("price 9;", 0), -1, 0));
    }

    /** Promise 2: "what is beyond 1,000 [is] left out", of one feed only what is beyond. */
    private static void thousandCutsAFeed() {
        String text = "gap 17;price 9;\nprice 8;";
        MangleTown x = blanks(984);
        e.due("P2 16 of 24", x.feed(Checks.bytes(text, 0), Checks.bytes(text, 8), Checks.bytes(text, 16)), 1000);
        e.due("P2 the second price is left out", x.town(), 0);
        e.due("P2 gap", x.count(1), 17);
        e.due("P2 price", x.count(2), 9);
        MangleTown y = blanks(983);
        y.feed(Checks.bytes(text, 0), Checks.bytes(text, 8), Checks.bytes(text, 16));
        e.due("P2 17 of 24: a p more", y.town(), Edges.at(1, 999));
    }

    /** Promise 2: "others [..] are left out": they take no room of the 1,000. */
    private static void othersTakeNoRoom() {
        MangleTown x = blanks(999);
        e.due("P2 others", x.feed(0, -1, 0x7F09), 999);
        e.due("P2 a sign behind others", x.feed(-1, 0x0102030405060708L, 0x3B), 1000);
        e.due("P2 it is there", x.town(), Edges.at(1, 999));
    }

    /** Terms: "what reads it takes it: it is empty then", whether there is a fault or not. */
    private static void readingTakes() {
        MangleTown x = new MangleTown();
        String[] texts = {"gap 7;", "gap 0;", "run;", "run"};
        for (int i = 0; i < 4; i++) {
            Checks.feed(x, texts[i]);
            e.due("P3 P4 fed " + texts[i], x.count(14), texts[i].length());
            int fault = i < 2 ? x.town() : x.years();
            e.due("P3 P4 a fault or none " + texts[i], fault != 0, i % 2 == 1);
            e.due("P3 P4 taken " + texts[i], x.count(14), 0);
            e.due("P2 from 0 again", x.feed(0, 0, 0), 0);
        }
    }

    /** Terms: "what reads it takes it": what the one has read, the other one does not see. */
    private static void readingTakesForGood() {
        MangleTown x = new MangleTown();
        Checks.feed(x, "gap 7;");
        e.due("P4 not years", x.years(), Edges.at(1, 0));
        e.due("P3 nothing is left of it", x.town(), 0);
        e.due("P3 the gap told of nowhere", x.count(1), 5);
        Checks.feed(x, "price 12345");
        e.due("P3 a fault", x.town(), Edges.at(1, 6));
        e.due("P3 a shorter text behind a longer one", Checks.town(x, "gap 8;"), 0);
        e.due("P3 nothing of the longer one", x.count(2), 3);
    }

    /** Terms: "TOKENS, each as long as can be". */
    private static void longAsCanBe() {
        town("gap 20;", 0);
        town("gap 2 0;", Edges.at(1, 6));
        town("gap 201;", Edges.at(4, 4));
        town("gapp 2;", Edges.at(1, 0));
        town("ga p 2;", Edges.at(1, 0));
        town("presses nota;", Edges.at(1, 8));
        town("presses not 1;", 0);
        town("presses 1<=2;", Edges.at(1, 10));
        town("presses 1 orb 2;", Edges.at(1, 10));
    }

    /** Terms: "blanks (10, 32) between where one likes". */
    private static void blanksBetween() {
        town("gap7;price8;rains1 2;presses(1)+2;", 0);
        town(" \n gap \n\n 7 \n ; \n price\n8\n;\n\n", 0);
        town("\n", 0);
        town(" ", 0);
        town("\n \ngap 0;", Edges.at(4, 7));
        town("house\na\ncat\nthick\n1\nwet\n2\nink\n3\n;", 0);
    }

    /** Terms: "WORDS (letters a .. z": 96, 123 and capitals are none. */
    private static void wordLetters() {
        town(named("a"), 0);
        town(named("z"), 0);
        town(named("azza"), 0);
        town(named("`"), Edges.at(1, 6));
        town(named("{"), Edges.at(1, 6));
        town(named("A"), Edges.at(1, 6));
        town(named("Z"), Edges.at(1, 6));
        town(named("a`"), Edges.at(1, 7));
        town(named("z{"), Edges.at(1, 7));
        town(named("aZ"), Edges.at(1, 7));
        town(named("_"), Edges.at(1, 6));
    }

    /** Terms: "WORDS (letters a .. z, 8 at most)"; "All else (a longer WORD [..], at its first sign) is none". */
    private static void wordEight() {
        town(named("aaaaaaaa"), 0);
        town(named("zzzzzzzz"), 0);
        town(named("aaaaaaaaa"), Edges.at(1, 6));
        town("pressess 1;", Edges.at(1, 0));
        String ab = named("aaaaaaaa") + named("b");
        town(ab + "shuns b zzzzzzzz;", Edges.at(2, ab.length() + 8));
        town(ab + "shuns b aaaaaaaa;", 0);
        town(ab + "shuns b aaaaaaaaa;", Edges.at(1, ab.length() + 8));
        MangleTown x = Checks.of(ab);
        e.due("P4 8 letters", Checks.years(x, "road aaaaaaaa;"), 0);
        e.due("P4 9 letters", Checks.years(x, "road aaaaaaaaa;"), Edges.at(1, 5));
    }

    /** Terms: "a longer WORD [..] is none", as long as the tape, too, and be its end a word that is one. */
    private static void wordLongest() {
        town("z".repeat(1000), Edges.at(1, 0));
        town("house " + "a".repeat(994), Edges.at(1, 6));
        town("zzzzzzzzzzzzzzzzzgap 7;", Edges.at(1, 0));
        town("aaaaaaaaaaaaahouse a cat thick 1 wet 0 ink 0;", Edges.at(1, 0));
    }

    /** Terms: "NUMBERS (1 to 4 digits": 47 and 58 are none. */
    private static void numberDigits() {
        town("gap 1;", 0);
        town("gap 0001;", 0);
        town("gap 0020;", 0);
        town("gap 00001;", Edges.at(1, 4));
        town("gap 9999;", Edges.at(4, 4));
        town("gap 10000;", Edges.at(1, 4));
        town("gap ;", Edges.at(1, 4));
        town("gap /;", Edges.at(1, 4));
        town("gap :;", Edges.at(1, 4));
        town("gap 9:;", Edges.at(1, 5));
        town("gap 0/;", Edges.at(4, 4));
        town("gap -1;", Edges.at(1, 4));
        town("presses 9999;", 0);
        town("presses 10000;", Edges.at(1, 8));
        town("presses 0000;", 0);
        town("presses 00000;", Edges.at(1, 8));
    }

    /** Terms: "a longer [..] NUMBER, too, at its first sign [..] is none", as long as the tape, too. */
    private static void numberLongest() {
        town("gap " + "0".repeat(990) + "7;", Edges.at(1, 4));
        town("9".repeat(1000), Edges.at(1, 0));
        // 4294967303 is 7 beyond what an int holds.
        town("gap 4294967303;", Edges.at(1, 4));
    }

    /** Terms: "NUMBERS (1 to 4 digits; a letter may stand right behind)". */
    private static void numberThenLetter() {
        town("house a cat thick 1wet 99ink 9;", 0);
        town("house a cat thick1wet99ink9;", 0);
        town("house a cat thick 0001wet 0099ink 0009;", 0);
        town("house a cat thick 00001wet 0ink 0;", Edges.at(1, 18));
        town("presses 1and 2or 3;", 0);
        town("presses 1wide;", Edges.at(1, 9));
        town("house a1 cat thick 1 wet 0 ink 0;", Edges.at(1, 7));
    }

    /** Terms: "the signs ( ) < = + - * ;  All else [..] is none." Each sign between two numbers of a law. */
    private static void signsThatStand() {
        for (int sign = 33; sign <= 126; sign++) {
            boolean joins = "<=+-*".indexOf(sign) >= 0 || sign >= '0' && sign <= '9';
            int want = joins ? 0 : Edges.at(1, sign == ';' ? 10 : 9);
            town("presses 1" + (char) sign + "1;", want);
        }
        town("presses (1);", 0);
        town("presses [1];", Edges.at(1, 8));
    }

    /** Terms: "FAULTS, kind + 16 * the place (from 0) of a token, the end being one at the text's length". */
    private static void endOfText() {
        town("gap", Edges.at(1, 3));
        town("gap ", Edges.at(1, 4));
        town("gap\n\n\n", Edges.at(1, 6));
        town("gap 7", Edges.at(1, 5));
        town("gap 7;", 0);
        town("gap 7;;", Edges.at(1, 6));
        town(";", Edges.at(1, 0));
        MangleTown x = new MangleTown();
        e.due("P4 the end", Checks.years(x, "run "), Edges.at(1, 4));
        e.due("P4 the first token", Checks.years(x, ";"), Edges.at(1, 0));
    }

    /** Terms: "the end being one at the text's length", 1,000 at most. */
    private static void endOfFullTape() {
        town(" ".repeat(997) + "gap", Edges.at(1, 1000));
        town(" ".repeat(994) + "gap 7;", 0);
        town("gap 7" + " ".repeat(995), Edges.at(1, 1000));
        town(" ".repeat(994) + "gap 0;", Edges.at(4, 998));
        // One sign more: the last one is left out.
        town(" ".repeat(995) + "gap 7;", Edges.at(1, 1000));
    }
}
