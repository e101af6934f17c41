/** Boundaries of promises 4 and 15: years told, and judged. One test for each sentence. */
public final class EdgeYearsTest {
    private static final Edges e = new Edges();
    /** 40 pints by the first run, none by later ones; two coins a pint. */
    private static final String FORTY_PINTS = Edges.house("a", "plain", 9, 40, 1) + Edges.house("b", "plain", 9, 0, 1)
            + "rains 0;price 2;";

    public static void main(String[] args) {
        anyNumber();
        fortyLines();
        putPlaces();
        putNames();
        roadNames();
        runLines();
        sellPints();
        namesKept();
        namesOfNobody();
        noLines();
        linesEnd();
        firstFromTheLeft();
        faultLeavesAll();
        yearsAreTheYears();
        yearsLeaveTheRest();
        judgedWhat();
        judgedNothing();
        judgedPutBeyond();
        judgedSell();
        judgedLeftOut();
        judgedFirstLine();
        judgedAlwaysCan();
        judgedShunned();
        judgedRightBehind();
        judgedFirstRun();
        judgedCoins();
        judgedFromTheBeginning();
        judgedRoom();
        e.end();
    }

    /** Years on rich's town, whose houses are hall, inn, tom, shop. */
    private static void told(String text) {
        MangleTown x = Edges.rich();
        e.due("P4 years " + text, Checks.years(x, text), 0);
        e.due("P4 taken " + text, x.count(14), 0);
    }

    private static void wrong(String text, int kind, int place) {
        e.leaves("P4 years " + text, Edges.at(kind, place), Edges::rich, x -> Checks.years(x, text));
    }

    /** Terms: "YEARS: any number of put NAME N ; road NAME ; run ; sell N ;": none, one, in any order. */
    private static void anyNumber() {
        told("");
        told("put hall 0;");
        told("road inn;");
        told("run;");
        told("sell 1;");
        told("sell 1;run;road tom;put shop 3;run;");
    }

    /** Terms: "40 lines at most"; FAULT 5 "the first word of a 41st line of YEARS". */
    private static void fortyLines() {
        String[] lines = {"put hall 0;", "road inn;", "run;", "sell 1;"};
        String[] words = {"put", "road", "run", "sell"};
        for (int i = 0; i < 4; i++) {
            String most = lines[i].repeat(39) + "run;";
            MangleTown x = Edges.rich();
            e.due("P4 40 lines of " + lines[i], Checks.years(x, most), 0);
            e.due("P33 40 lines", x.count(10), 40);
            wrong(most + lines[i], 5, most.length());
            wrong(most + words[i], 5, most.length());
            wrong(most + "\n " + words[i] + " ?", 5, most.length() + 2);
        }
        String forty = "run;".repeat(40);
        told("run;".repeat(39));
        told(forty + " \n");
        wrong(forty + "gap 1;", 1, 160);
        wrong(forty + "runs;", 1, 160);
        wrong(forty + ";", 1, 160);
        wrong("run;".repeat(39) + "put hall 7;run;run;", 4, 165);
        wrong("run;".repeat(45), 5, 160);
    }

    /** Terms: put "(a HOUSE, a place 0 to 6)": of a town of fewer houses, too. */
    private static void putPlaces() {
        for (int place = 0; place <= 6; place++) {
            told("put hall " + place + ";");
        }
        told("put hall 0006;");
        wrong("put hall 7;", 4, 9);
        wrong("put hall 9999;", 4, 9);
        wrong("put hall 10000;", 1, 9);
        wrong("put hall -1;", 1, 9);
        wrong("put hall;", 1, 8);
        wrong("put hall inn;", 1, 9);
        wrong("put hall 1 1;", 1, 11);
        MangleTown x = Checks.of(Edges.house("a", "cat", 1, 0, 0));
        e.due("P4 a place beyond the one house", Checks.years(x, "put a 6;"), 0);
    }

    /** Terms: FAULT "2 a NAME of no HOUSE (behind [..] put [..]) told". */
    private static void putNames() {
        for (String name : new String[] {"hall", "inn", "tom", "shop"}) {
            told("put " + name + " 0;");
        }
        wrong("put z 0;", 2, 4);
        wrong("put halls 0;", 2, 4);
        wrong("put hal 7;", 2, 4);
        wrong("put wide 0;", 2, 4);
        wrong("put 0 0;", 1, 4);
        wrong("put;", 1, 3);
        wrong("put", 1, 3);
        wrong("put hallabcde 0;", 1, 4);
    }

    /** Terms: FAULT "2 a NAME of no HOUSE (behind [..] road) told". */
    private static void roadNames() {
        told("road shop;");
        wrong("road z;", 2, 5);
        wrong("road shops;", 2, 5);
        wrong("road;", 1, 4);
        wrong("road 0;", 1, 5);
        wrong("road shop 1;", 1, 10);
        wrong("road shop inn;", 1, 10);
    }

    /** Terms: "run ;": nothing between. */
    private static void runLines() {
        told("run ;");
        told("run\n;");
        wrong("run hall;", 1, 4);
        wrong("run 1;", 1, 4);
        wrong("run run;", 1, 4);
    }

    /** Terms: sell "pints 1 to 99". */
    private static void sellPints() {
        told("sell 1;");
        told("sell 99;");
        told("sell 0001;");
        wrong("sell 0;", 4, 5);
        wrong("sell 100;", 4, 5);
        wrong("sell 9999;", 4, 5);
        wrong("sell 10000;", 1, 5);
        wrong("sell -1;", 1, 5);
        wrong("sell;", 1, 4);
        wrong("sell hall;", 1, 5);
        wrong("sell 1 1;", 1, 7);
    }

    /** Terms: "A NAME is another WORD than house, thick, [..] or": such a one can't stand there. */
    private static void namesKept() {
        for (String word : Edges.KEPT) {
            wrong("put " + word + " 0;", 1, 4);
            wrong("road " + word + ";", 1, 5);
        }
        MangleTown x = Checks.of(Edges.house("wall", "cat", 1, 0, 0) + Edges.house("damp", "cat", 1, 0, 0));
        e.due("P4 facts are names", Checks.years(x, "put wall 1;road damp;"), 0);
    }

    /** Terms: FAULT 2, where nothing is told yet: every NAME is of no HOUSE. */
    private static void namesOfNobody() {
        e.leaves("P4 nobody to put", Edges.at(2, 4), MangleTown::new, x -> Checks.years(x, "put a 0;"));
        e.leaves("P4 nobody's road", Edges.at(2, 5), MangleTown::new, x -> Checks.years(x, "road a;"));
        MangleTown x = new MangleTown();
        e.due("P4 run and sell name nobody", Checks.years(x, "run;sell 1;"), 0);
        e.due("P33 two lines", x.count(10), 2);
        e.due("P15 nothing to sell", x.judged(0), 1);
        e.due("P15 nobody is shunned", x.judged(1), -1);
        e.due("P15 no coins", x.judged(2), 0);
        // A house told in a town that was refused is none.
        String house = Edges.house("a", "cat", 1, 0, 0);
        e.due("P3 refused", Checks.town(x, house + "x"), Edges.at(1, house.length()));
        e.due("P4 its name is none", Checks.years(x, "road a;"), Edges.at(2, 5));
    }

    /** Terms: FAULT "1 it is none, or can't stand there": what begins no line of YEARS. */
    private static void noLines() {
        for (String word : new String[] {"hall", "house", "gap", "shuns", "not", "0", ";", "(", "?", "Run", "runs",
            "ru", "undo"}) {
            wrong(word, 1, 0);
            wrong("run;" + word, 1, 4);
        }
    }

    /** Terms: each line of YEARS ends with a ; and the end is a token at the text's length. */
    private static void linesEnd() {
        for (String line : new String[] {"put hall 0", "road inn", "run", "sell 1"}) {
            wrong(line, 1, line.length());
            wrong(line + "  ", 1, line.length() + 2);
            wrong(line + " run;", 1, line.length() + 1);
            wrong(line + ";;", 1, line.length() + 1);
        }
    }

    /** Terms: FAULTS "of the first token from the left that is wrong". */
    private static void firstFromTheLeft() {
        wrong("sell 0;put z 9;", 4, 5);
        wrong("put z 9;sell 0;", 2, 4);
        wrong("run;run;?;sell 0;", 1, 8);
        wrong("put house 9;", 1, 4);
    }

    /** Promise 4: "likewise": its FAULT (all stays then), the elder YEARS, too. */
    private static void faultLeavesAll() {
        MangleTown x = Edges.rich();
        int lines = x.count(10);
        e.due("P33 rich's lines", lines, 5);
        e.due("P4 a fault at the end", Checks.years(x, "run;run;run;sell 9;run"), Edges.at(1, 22));
        e.due("P33 the elder lines", x.count(10), 5);
        wrong("put inn 0;".repeat(40) + "run;", 5, 400);
    }

    /** Terms: "YEARS are the YEARS": later ones in place of the elder ones, none by a text of no signs. */
    private static void yearsAreTheYears() {
        MangleTown x = Checks.of(FORTY_PINTS);
        e.due("P4 no years yet", x.count(10), 0);
        e.due("P4 three lines", Checks.years(x, "run;sell 9;run;"), 0);
        e.due("P33 three", x.count(10), 3);
        e.due("P15 coins", x.judged(2), 18);
        e.due("P4 one line", Checks.years(x, "sell 1;"), 0);
        e.due("P33 one", x.count(10), 1);
        e.due("P15 that line", x.judged(0), 0);
        e.due("P4 none", Checks.years(x, " \n"), 0);
        e.due("P33 none", x.count(10), 0);
        e.due("P15 none", x.judged(0), -1);
        e.due("P4 no signs", x.years(), 0);
    }

    /** Promise 4: the YEARS are told, nothing is done by that. */
    private static void yearsLeaveTheRest() {
        MangleTown x = Edges.rich();
        MangleTown y = Edges.rich();
        Checks.years(x, "run;run;put tom 0;road hall;sell 1;");
        Checks.years(y, "run;sell 9;road inn;run;sell 9;");
        for (int what = 0; what <= 14; what++) {
            e.due("P4 count " + what, x.count(what), y.count(what));
        }
        e.same("P4 what can be undone, the marks", Edges.unwound(x), Edges.unwound(y));
    }

    private static void judge(String town, String years, int broken, int shunned, int coins) {
        MangleTown x = Checks.of(town);
        e.due("P4 years " + years, Checks.years(x, years), 0);
        String ahead = Edges.looks(x);
        e.due("P15 can't be: " + years, x.judged(0), broken);
        e.due("P15 shunned: " + years, x.judged(1), shunned);
        e.due("P15 coins: " + years, x.judged(2), coins);
        e.same("P15 nothing is done: " + years, Edges.looks(x), ahead);
    }

    /** Promise 15: "JUDGED, what 0, 1: lines [..], 2: coins; -2: others." */
    private static void judgedWhat() {
        e.leaves("P15 what -1", -2, Edges::rich, x -> x.judged(-1));
        e.leaves("P15 what 3", -2, Edges::rich, x -> x.judged(3));
        for (int what : Edges.FAR_OFF) {
            e.leaves("P15 what " + what, -2, Edges::rich, x -> x.judged(what));
            e.due("P15 nothing told", new MangleTown().judged(what), -2);
        }
        // put hall 5 can't be; inn goes behind hall, whom it shuns; 9 pints are sold for 4 each.
        e.leaves("P15 what 0", 0, Edges::rich, x -> x.judged(0));
        e.leaves("P15 what 1", 1, Edges::rich, x -> x.judged(1));
        e.leaves("P15 what 2", 36, Edges::rich, x -> x.judged(2));
    }

    /** Promise 15: "lines (NONE: none)": no YEARS, and YEARS that all can be. */
    private static void judgedNothing() {
        judge("", "", -1, -1, 0);
        judge(FORTY_PINTS, "", -1, -1, 0);
        judge(FORTY_PINTS, "run;", -1, -1, 0);
        judge(FORTY_PINTS, "put a 1;road b;run;sell 40;", -1, -1, 80);
    }

    /** Terms: JUDGED "the first line [..] that can't be (put at a place beyond". */
    private static void judgedPutBeyond() {
        for (int many = 1; many <= 7; many++) {
            String town = Edges.plain(many, 1, 0, 0);
            for (int place = 0; place <= 6; place++) {
                judge(town, "run;put a " + place + ";", place < many ? -1 : 1, -1, 0);
            }
        }
    }

    /** Terms: JUDGED "the first line [..] that can't be ([..] sell": of more than there are then. */
    private static void judgedSell() {
        judge(FORTY_PINTS, "sell 1;", 0, -1, 0);
        judge(FORTY_PINTS, "sell 1;run;", 0, -1, 0);
        judge(FORTY_PINTS, "run;sell 40;", -1, -1, 80);
        judge(FORTY_PINTS, "run;sell 41;", 1, -1, 0);
        judge(FORTY_PINTS, "run;sell 39;sell 1;", -1, -1, 80);
        judge(FORTY_PINTS, "run;sell 39;sell 2;", 2, -1, 78);
        judge(FORTY_PINTS, "run;sell 40;sell 1;", 2, -1, 80);
        judge(FORTY_PINTS, "road a;run;sell 1;", 2, -1, 0);
    }

    /** Terms: JUDGED "(a line that can't be is left out)": what follows goes on as if it were not there. */
    private static void judgedLeftOut() {
        judge(FORTY_PINTS, "run;sell 41;sell 40;", 1, -1, 80);
        judge(FORTY_PINTS, "run;sell 99;sell 20;sell 21;sell 20;", 1, -1, 80);
        // b shuns a: a is put nowhere, so b stays behind it.
        String shuns = FORTY_PINTS + "shuns b a;";
        judge(shuns, "put a 2;run;", 0, 1, 0);
        judge(shuns, "put a 1;run;", -1, -1, 0);
        judge(shuns, "put a 6;put b 0;run;sell 40;", 0, -1, 80);
    }

    /** Terms: JUDGED "the first line (from 0)": of several, and the last of forty. */
    private static void judgedFirstLine() {
        judge(FORTY_PINTS, "put a 2;sell 1;put b 6;", 0, -1, 0);
        judge(FORTY_PINTS, "put a 1;sell 1;put b 6;", 1, -1, 0);
        judge(FORTY_PINTS, "run;".repeat(39) + "sell 41;", 39, -1, 0);
        judge(FORTY_PINTS, "run;".repeat(39) + "sell 40;", -1, -1, 80);
        judge(FORTY_PINTS, "put a 2;".repeat(40), 0, -1, 0);
        judge(FORTY_PINTS + "shuns b a;", "road a;".repeat(38) + "put a 1;run;", -1, -1, 0);
        judge(FORTY_PINTS + "shuns b a;", "road a;".repeat(39) + "run;", -1, -1, 0);
        judge(FORTY_PINTS + "shuns b a;", "road a;".repeat(38) + "put a 0;run;", -1, 39, 0);
    }

    /** Terms: JUDGED "all else always can": put where it is, road to and fro, runs of nobody. */
    private static void judgedAlwaysCan() {
        judge(FORTY_PINTS, "put a 0;put b 1;road a;road b;run;run;road a;road b;run;", -1, -1, 0);
        judge("", "run;run;", -1, -1, 0);
    }

    /** Terms: JUDGED "the first run's line in which one GOES behind one that it shuns". */
    private static void judgedShunned() {
        String shuns = FORTY_PINTS + "shuns b a;";
        judge(shuns, "run;", -1, 0, 0);
        judge(shuns, "put b 0;run;", -1, -1, 0);
        judge(shuns, "road b;run;", -1, -1, 0);
        judge(shuns, "road a;run;", -1, -1, 0);
        judge(shuns, "put a 0;road a;road a;sell 1;", 3, -1, 0);
        judge(FORTY_PINTS + "shuns a b;", "run;", -1, -1, 0);
    }

    /** Terms: JUDGED "(right behind the one ahead of it)": cats are none ahead, another one between is. */
    private static void judgedRightBehind() {
        String three = Edges.plain(2, 9, 40, 1) + Edges.house("k", "cat", 9, 1, 1) + Edges.house("c", "plain", 9, 1, 1);
        judge(three + "shuns c a;", "run;", -1, -1, 0);
        judge(three + "shuns c b;", "run;", -1, 0, 0);
        judge(three + "shuns c k;", "run;", -1, -1, 0);
        judge(three + "shuns k b;", "run;", -1, 0, 0);
        judge(three + "shuns k a;", "run;", -1, -1, 0);
        judge(three + "shuns k a;", "road b;run;", -1, 1, 0);
        judge(three + "shuns k a;", "put k 0;run;put k 1;run;", -1, 3, 0);
    }

    /** Terms: JUDGED "the first run's line": of several runs, lines counted from 0. */
    private static void judgedFirstRun() {
        String shuns = FORTY_PINTS + "shuns b a;";
        judge(shuns, "put b 0;run;put b 1;run;put b 0;run;", -1, 3, 0);
        judge(shuns, "run;run;run;", -1, 0, 0);
        judge(shuns, "put b 0;" + "run;".repeat(37) + "put a 0;run;", -1, 39, 0);
    }

    /** Terms: JUDGED "coins at last": by what could be sold, none by hand. */
    private static void judgedCoins() {
        judge(FORTY_PINTS, "run;sell 1;", -1, -1, 2);
        judge(FORTY_PINTS + "shuns b a;", "run;sell 1;sell 99;", 2, 0, 2);
        String dear = Edges.plain(7, 9, 99, 1) + "price 99;rains 0;";
        judge(dear, "run;" + "sell 99;".repeat(7), -1, -1, 7 * 9801);
        judge(dear, "run;" + "sell 99;".repeat(8), 8, -1, 7 * 9801);
        judge(Edges.plain(7, 9, 99, 1) + "price 0;", "run;sell 99;", -1, -1, 0);
    }

    /** Terms: JUDGED "the YEARS from the beginning": whatever was done by hand, or gone back to. */
    private static void judgedFromTheBeginning() {
        MangleTown x = Checks.of(FORTY_PINTS + "shuns b a;");
        Checks.years(x, "run;sell 40;");
        x.put(1, 0);
        x.road(0);
        x.run();
        x.mark(0, false);
        x.road(0);
        x.run();
        x.sell(7);
        for (int i = 0; i < 2; i++) {
            e.due("P15 none", x.judged(0), -1);
            e.due("P15 b behind a", x.judged(1), 0);
            e.due("P15 80", x.judged(2), 80);
            x.mark(0, true);
        }
        e.due("P15 the state by hand stays", x.count(3), 1);
    }

    /** Terms: RUN "999 at most": of JUDGED runs, too; "PINTS more (999 at most)". */
    private static void judgedRoom() {
        // 693, then 63 by each run: 945 by the fifth, 999 by the sixth.
        String full = Edges.plain(7, 9, 99, 0) + "rains 9;price 1;";
        judge(full, "run;".repeat(6) + "sell 99;".repeat(10) + "sell 9;sell 1;", 17, -1, 999);
        judge(full, "run;".repeat(5) + "sell 99;".repeat(9) + "sell 54;sell 1;", 15, -1, 945);
    }
}
