/** Boundary cases of promises 25 to 33 and of the terms they use: a method for each sentence. */
public final class RowBoundariesTest {
    private static final Due DUE = new Due();
    private static final int LOW = Integer.MIN_VALUE;
    private static final int HIGH = Integer.MAX_VALUE;

    private static final String ONE = "order 1;";
    private static final String FREE_8 = "order 8;";
    private static final String CHAIN_8 = "order 8:0<1<2<3<4<5<6<7;";
    private static final String TWO_TWO = "order 4:0<1,2<3;";
    // Critical: 03, 14, 25.
    private static final String CROWN = "order 6:0<4,0<5,1<3,1<5,2<3,2<4;";
    // Critical: 04, 15, 26, 37.
    private static final String FOUR_FOUR = "order 8:0<5,0<6,0<7,1<4,1<6,1<7,2<4,2<5,2<7,3<4,3<5,3<6;";
    // Critical: 23, 24, 30, 41. The search for two places goes back over two of them.
    private static final String GOES_BACK = "order 5:2<0,2<1,3<1,4<0;";

    public static void main(String[] args) {
        criticalHowMany();
        criticalWhatIsBelow();
        criticalWhatIsAbove();
        criticalEnds();
        reversedNoneAndAll();
        rowsAreLines();
        rowsAreNoRealizer();
        rowsAreARealizer();
        rowsAreUnlike();
        aheadWithoutRows();
        aheadInAllRows();
        realizesPlaces();
        realizesTries();
        realizesGoesBack();
        realizesWhateverTheNames();
        realizesEveryPlaceIsATry();
        realizesAChain();
        realizesLongest();
        realizesLeavesRows();
        realizesThirtySixThousand();
        dimensionLeastAndMost();
        dimensionTriesForEach();
        dimensionChangesNothing();
        rowFirstAndLast();
        addsUpToSix();
        addsNoneFirst();
        takesUpToNone();
        DUE.close("RowBoundariesTest");
    }

    private static void due(String what, int got, int want) {
        DUE.due(what, got, want);
    }

    private static String rows(OrderGauge g) {
        g.tell(0);
        String all = Due.out(g);
        return all.substring(all.indexOf(';') + 1);
    }

    private static void dueRows(String what, OrderGauge g, String want) {
        String got = rows(g);
        DUE.holds(what + ": rows are " + got + ", due are " + want, got.equals(want));
    }

    // Search for t places: with just enough tries it ends so, with one less it is too long.
    private static void search(String text, int t, int tries, int want) {
        due("29 realizes " + t + " of " + text, Due.with(text).realizes(0, t, tries), want);
        if (tries > 1) {
            due("29 too long " + t + " of " + text, Due.with(text).realizes(0, t, tries - 1), -3);
        }
    }

    private static void critical(String text, int... want) {
        OrderGauge g = Due.with(text);
        due("25 how many of " + text, g.critical(0, -1), want.length);
        for (int k = 0; k < want.length; k++) {
            due("25 critical " + k + " of " + text, g.critical(0, k), want[k]);
        }
        due("25 behind the last of " + text, g.critical(0, want.length), -1);
    }

    // 25: "how many (k NONE)"
    private static void criticalHowMany() {
        critical(ONE);
        critical(CHAIN_8);
        critical("order 2;", 1, 10);
        critical("order 3;", 1, 2, 10, 12, 20, 21);
        critical(CROWN, 3, 14, 25);
        critical(FOUR_FOUR, 4, 15, 26, 37);
        critical(GOES_BACK, 23, 24, 30, 41);
        due("25 free", Due.with(FREE_8).critical(0, -1), 56);
    }

    // II: "what is BELOW a is BELOW b"
    private static void criticalWhatIsBelow() {
        critical("order 3:0<1;", 2, 21);
        // 0 is below 1 and 2 alike, and these are free: both ways.
        critical("order 3:0<1,0<2;", 12, 21);
        // 0 is below 2 alone: 12 stays, 21 goes.
        critical("order 4:0<2,3<1,3<2;", 1, 12, 30);
    }

    // II: "what is ABOVE b is ABOVE a"
    private static void criticalWhatIsAbove() {
        critical("order 3:1<0,2<0;", 12, 21);
        // 0 is above 2 alone: 21 stays, 12 goes.
        critical("order 4:2<0,1<3,2<3;", 3, 10, 21);
    }

    // 25: "NONE: not so many; -2 (k below NONE, too)"
    private static void criticalEnds() {
        OrderGauge g = Due.with(FREE_8);
        due("25 first", g.critical(0, 0), 1);
        due("25 last", g.critical(0, 55), 76);
        due("25 behind the last", g.critical(0, 56), -1);
        due("25 greatest", g.critical(0, HIGH), -1);
        due("25 below NONE", g.critical(0, -2), -2);
        due("25 least", g.critical(0, LOW), -2);
        due("25 none", Due.with(CHAIN_8).critical(0, 0), -1);
        due("25 below NONE, none", Due.with(CHAIN_8).critical(0, -2), -2);
    }

    // 26: "How many CRITICAL twos a ROW turns."
    private static void reversedNoneAndAll() {
        OrderGauge g = Due.with(FREE_8 + "row 01234567;row 76543210;");
        due("26 one of each two", g.reversed(0, 0), 28);
        due("26 the other of each two", g.reversed(0, 1), 28);
        due("26 none critical", Due.with(CHAIN_8 + "row 76543210;").reversed(0, 0), 0);
        g = Due.with(CROWN + "row 012345;row 345012;row 120345;row 123045;");
        due("26 none", g.reversed(0, 0), 0);
        due("26 all, by no line", g.reversed(0, 1), 3);
        due("26 none still", g.reversed(0, 2), 0);
        due("26 one", g.reversed(0, 3), 1);
        due("26 row 4", g.reversed(0, 4), -2);
        due("26 row -1", g.reversed(0, -1), -2);
    }

    // 27: "0: LINES, all of them"
    private static void rowsAreLines() {
        due("27 without rows", Due.with(TWO_TWO).rowsAre(0, 0), 1);
        due("27 lines", Due.with(TWO_TWO + "row 0123;row 2301;").rowsAre(0, 0), 1);
        due("27 the first is none", Due.with(TWO_TWO + "row 1023;row 2301;").rowsAre(0, 0), 0);
        due("27 the last is none", Due.with(TWO_TWO + "row 0123;row 2310;").rowsAre(0, 0), 0);
        OrderGauge g = Due.with("order 2;row 10;");
        due("27 a line", g.rowsAre(0, 0), 1);
        g.puts(0, 0, 1);
        due("27 none any more", g.rowsAre(0, 0), 0);
        g.cuts(0, 0, 1);
        due("27 one again", g.rowsAre(0, 0), 1);
        due("27 what 3", g.rowsAre(0, 3), -2);
        due("27 what -1", g.rowsAre(0, -1), -2);
    }

    // II: "so that of two FREE THINGS each comes ahead of the other one in some ROW (a CHAIN: one LINE at least)"
    private static void rowsAreNoRealizer() {
        due("27 one without rows", Due.with(ONE).rowsAre(0, 1), 0);
        due("27 chain without rows", Due.with(CHAIN_8).rowsAre(0, 1), 0);
        due("27 free without rows", Due.with(FREE_8).rowsAre(0, 1), 0);
        due("27 one row of two free", Due.with("order 2;row 01;").rowsAre(0, 1), 0);
        due("27 the other row of two free", Due.with("order 2;row 10;").rowsAre(0, 1), 0);
        due("27 the same twice", Due.with("order 2;row 01;row 01;").rowsAre(0, 1), 0);
        due("27 one two not turned", Due.with("order 3;row 012;row 201;").rowsAre(0, 1), 0);
        due("27 a row that is no line", Due.with("order 3:0<1;row 012;row 201;row 102;").rowsAre(0, 1), 0);
        due("27 chain with no line", Due.with("order 2:0<1;row 10;").rowsAre(0, 1), 0);
        due("27 chain, one of two is no line", Due.with("order 2:0<1;row 01;row 10;").rowsAre(0, 1), 0);
    }

    private static void rowsAreARealizer() {
        due("27 one with a row", Due.with(ONE + "row 0;").rowsAre(0, 1), 1);
        due("27 chain with one", Due.with(CHAIN_8 + "row 01234567;").rowsAre(0, 1), 1);
        due("27 free with two", Due.with(FREE_8 + "row 01234567;row 76543210;").rowsAre(0, 1), 1);
        due("27 without the row that is no line", Due.with("order 3:0<1;row 012;row 201;").rowsAre(0, 1), 1);
        due("27 three rows, each two turned by some", Due.with("order 3;row 012;row 201;row 210;").rowsAre(0, 1), 1);
    }

    // 27: "2: unlike, all"
    private static void rowsAreUnlike() {
        due("27 none", Due.with("order 2;").rowsAre(0, 2), 1);
        due("27 one", Due.with("order 2;row 01;").rowsAre(0, 2), 1);
        due("27 one of one thing", Due.with("order 1;row 0;").rowsAre(0, 2), 1);
        due("27 two of one thing", Due.with("order 1;row 0;row 0;").rowsAre(0, 2), 0);
        due("27 two", Due.with("order 2;row 01;row 10;").rowsAre(0, 2), 1);
        due("27 two like ones", Due.with("order 2;row 01;row 01;").rowsAre(0, 2), 0);
        String five = "order 3;row 012;row 021;row 102;row 120;row 201;";
        due("27 six", Due.with(five + "row 210;").rowsAre(0, 2), 1);
        due("27 the last like the first", Due.with(five + "row 012;").rowsAre(0, 2), 0);
        due("27 the last like the one ahead of it", Due.with(five + "row 201;").rowsAre(0, 2), 0);
        due("27 rows that are no lines", Due.with("order 2:0<1;row 10;row 10;").rowsAre(0, 2), 0);
        // A row that went is not there.
        OrderGauge g = Due.with("order 2;row 01;row 01;");
        g.takes(0, 1);
        due("27 one of two like ones", g.rowsAre(0, 2), 1);
        // Rows become alike as a thing goes.
        g = Due.with("order 3;row 012;row 021;");
        g.without(0, 2);
        due("27 alike without a thing", g.rowsAre(0, 2), 0);
    }

    // 28: "(without ROWS all others)"
    private static void aheadWithoutRows() {
        for (int thing = 0; thing < 8; thing++) {
            due("28 free", Due.with(FREE_8).ahead(0, thing), 255 & ~(1 << thing));
            due("28 chain", Due.with(CHAIN_8).ahead(0, thing), 255 & ~(1 << thing));
            due("28 chain with a row", Due.with(CHAIN_8 + "row 01234567;").ahead(0, thing), (1 << thing) - 1);
        }
        due("28 one", Due.with(ONE).ahead(0, 0), 0);
        due("28 one with a row", Due.with(ONE + "row 0;").ahead(0, 0), 0);
    }

    // 28: "in all ROWS"
    private static void aheadInAllRows() {
        OrderGauge g = Due.with("order 3;row 012;row 012;row 012;row 012;row 012;row 102;");
        due("28 turned by the sixth", g.ahead(0, 1), 0);
        due("28 last in all", g.ahead(0, 2), 3);
        g.takes(0, 5);
        due("28 without the sixth", g.ahead(0, 1), 1);
        due("28 thing 3", g.ahead(0, 3), -2);
        due("28 thing -1", g.ahead(0, -1), -2);
    }

    // 29: "of t (1 .. 4)"
    private static void realizesPlaces() {
        for (int t = 1; t <= 4; t++) {
            OrderGauge g = Due.with(CHAIN_8);
            due("29 t " + t, g.realizes(0, t, 1), 0);
            due("29 as many rows", g.look(0, 8), t);
        }
        for (int t : new int[] {0, 5, 6, -1, LOW, HIGH, LOW + 1, 32 + 1, 256 + 1}) {
            due("29 t " + t, Due.with(CHAIN_8).realizes(0, t, 1), -2);
        }
    }

    // 29: "-2 (tries 1 .. 100000)", ahead of NONE and -3
    private static void realizesTries() {
        for (int tries : new int[] {0, 100001, -1, LOW, HIGH, LOW + 1, 65536 * 2}) {
            due("29 tries " + tries, Due.with(CHAIN_8).realizes(0, 1, tries), -2);
            due("29 where there is none", Due.with("order 2;").realizes(0, 1, tries), -2);
        }
        due("29 least tries", Due.with("order 2;").realizes(0, 1, 1), -3);
        due("29 most tries", Due.with("order 2;").realizes(0, 1, 100000), -1);
        due("29 t ahead of NONE", Due.with("order 2;").realizes(0, 0, 1), -2);
        due("29 t ahead of -3", Due.with(CROWN).realizes(0, 5, 1), -2);
    }

    // II: "back, if it is in none (to the next place of the one ahead)"
    private static void realizesGoesBack() {
        // 23 into place 0, 24 into it, 30 not into 0, into 1; 41 into neither. Back: 30 has no place behind 1,
        // 24 into place 1, 30 not into 0, into 1; 41 into 0: ten places looked at.
        search(GOES_BACK, 2, 10, 10);
        OrderGauge g = Due.with(GOES_BACK);
        g.realizes(0, 2, 10);
        dueRows("29 two places", g, "row 32140;row 42031;");
        // With a third place 41 is put into it at once.
        search(GOES_BACK, 3, 7, 7);
        g.realizes(0, 3, 7);
        dueRows("29 three places", g, "row 34201;row 24031;row 23140;");
        search(GOES_BACK, 4, 7, 7);
        g.realizes(0, 4, 7);
        dueRows("29 four places", g, "row 34201;row 24031;row 23140;row 23140;");
        search(GOES_BACK, 1, 3, -1);
        // Longer ways back and forth; so many tries by the plain search of support/PlainGauge.java, too.
        search("order 6:0<1,0<2,1<5,3<5,4<2;", 2, 30, 30);
        search("order 6:1<3,2<3,2<5,4<0,4<5;", 2, 27, 27);
        search("order 6:2<0,2<1,3<0,3<4,4<1,5<0;", 2, 26, 26);
        search("order 6:0<1,2<0,2<3,4<1,4<3,5<0;", 2, 22, 22);
    }

    // 29: rows found are a realizer; two places are enough for these orders, whatever their things are named
    private static void realizesWhateverTheNames() {
        String[] sixes = {"order 6:0<1,0<2,1<5,3<5,4<2;", "order 6:1<3,2<3,2<5,4<0,4<5;",
            "order 6:2<0,2<1,3<0,3<4,4<1,5<0;", "order 6:0<1,2<0,2<3,4<1,4<3,5<0;"};
        for (String text : sixes) {
            for (int[] names : Due.names(6)) {
                OrderGauge g = Due.with(Due.renamed(text, names));
                DUE.holds("29 found of " + text, g.realizes(0, 2, 100000) > 0);
                due("29 a realizer of " + text, g.rowsAre(0, 1), 1);
            }
        }
        for (int[] names : Due.names(5)) {
            OrderGauge g = Due.with(Due.renamed(GOES_BACK, names));
            DUE.holds("29 found", g.realizes(0, 2, 100000) >= 4);
            due("29 a realizer", g.rowsAre(0, 1), 1);
            due("29 of two", g.look(0, 8), 2);
            due("25 four critical twos", g.critical(0, -1), 4);
            due("26 all turned", g.reversed(0, 0) + g.reversed(0, 1) >= 4 ? 1 : 0, 1);
            due("29 one is not enough", g.realizes(0, 1, 100000), -1);
        }
    }

    // II: "(not behind a place that has none yet)", "Each place looked at for a two is a try"
    private static void realizesEveryPlaceIsATry() {
        search("order 2;", 1, 2, -1);
        search("order 2;", 2, 3, 3);
        search("order 2;", 4, 3, 3);
        // 03 into 0; 14 not into 0, into 1; 25 into neither; 03 can't go into 1, as 0 would have none.
        search(CROWN, 1, 2, -1);
        search(CROWN, 2, 5, -1);
        search(CROWN, 3, 6, 6);
        search(CROWN, 4, 6, 6);
        search(FOUR_FOUR, 1, 2, -1);
        search(FOUR_FOUR, 2, 5, -1);
        search(FOUR_FOUR, 3, 9, -1);
        search(FOUR_FOUR, 4, 10, 10);
        search(FREE_8, 2, 84, 84);
    }

    // 29: a chain has no critical twos: no tries, the first line in each place
    private static void realizesAChain() {
        OrderGauge g = Due.with("order 3:2<1<0;");
        due("29 chain", g.realizes(0, 1, 1), 0);
        dueRows("29 one place", g, "row 210;");
        due("29 chain, four", g.realizes(0, 4, 100000), 0);
        dueRows("29 four places", g, "row 210;row 210;row 210;row 210;");
        g = Due.with(ONE);
        due("29 one", g.realizes(0, 1, 1), 0);
        dueRows("29 one thing", g, "row 0;");
        due("29 it is one", g.rowsAre(0, 1), 1);
    }

    // II: "The ROW of a place is the first LINE in which all put there are turned."
    private static void realizesLongest() {
        OrderGauge g = Due.with(FOUR_FOUR);
        g.realizes(0, 4, 10);
        dueRows("29 four", g, "row 12340567;row 02351467;row 01362457;row 01273456;");
        due("29 realizer", g.rowsAre(0, 1), 1);
        due("29 each turns one", g.reversed(0, 3), 1);
        g = Due.with(FREE_8);
        g.realizes(0, 2, 84);
        dueRows("29 free", g, "row 76543210;row 01234567;");
    }

    // 29: "(ROWS stay then.)"
    private static void realizesLeavesRows() {
        OrderGauge g = Due.with(CROWN + "row 543210;");
        due("29 none", g.realizes(0, 2, 5), -1);
        dueRows("29 rows stay, NONE", g, "row 543210;");
        due("29 too long", g.realizes(0, 3, 5), -3);
        dueRows("29 rows stay, -3", g, "row 543210;");
        due("29 refused", g.realizes(0, 0, 5), -2);
        dueRows("29 rows stay, -2", g, "row 543210;");
        due("29 no act", g.count(1), 1);
        due("29 found", g.realizes(0, 3, 6), 6);
        due("29 an act", g.count(1), 2);
        due("29 rows are others", g.look(0, 8), 3);
        g = Due.with(CROWN + "row 012345;row 012345;row 012345;row 012345;row 012345;row 012345;");
        due("29 six rows become three", g.realizes(0, 3, 6), 6);
        due("29 three", g.look(0, 8), 3);
        g.undo();
        due("29 six again", g.look(0, 8), 6);
    }

    // 29: the longest search known of eight things
    private static void realizesThirtySixThousand() {
        search("order 8:6<0,6<2,7<1,7<2;", 2, 36826, 36826);
    }

    // 30: "the least t (1 .. 4)"
    private static void dimensionLeastAndMost() {
        due("30 one", Due.with(ONE).dimension(0, 1), 1);
        due("30 chain", Due.with(CHAIN_8).dimension(0, 1), 1);
        due("30 two free", Due.with("order 2;").dimension(0, 3), 2);
        due("30 free", Due.with(FREE_8).dimension(0, 100000), 2);
        due("30 crown", Due.with(CROWN).dimension(0, 100000), 3);
        due("30 four and four", Due.with(FOUR_FOUR).dimension(0, 100000), 4);
        due("30 one two more", Due.with(FOUR_FOUR.replace(";", ",0<4;")).dimension(0, 100000), 3);
    }

    // 30: "tries for each", "-3: it is TOO LONG; -2 (tries 1 .. 100000)"
    private static void dimensionTriesForEach() {
        due("30 two free, just enough", Due.with("order 2;").dimension(0, 3), 2);
        due("30 two free, the second is too long", Due.with("order 2;").dimension(0, 2), -3);
        due("30 two free, the first is too long", Due.with("order 2;").dimension(0, 1), -3);
        // 2 and 5 and 6 tries: thirteen in all.
        due("30 crown, just enough", Due.with(CROWN).dimension(0, 6), 3);
        due("30 crown, too long", Due.with(CROWN).dimension(0, 5), -3);
        due("30 four and four, just enough", Due.with(FOUR_FOUR).dimension(0, 10), 4);
        due("30 four and four, too long", Due.with(FOUR_FOUR).dimension(0, 9), -3);
        // 3, 10 and 7 tries: with 7 to 9 three places would be found, but two are not told from none.
        due("30 goes back, just enough", Due.with(GOES_BACK).dimension(0, 10), 2);
        for (int tries = 1; tries < 10; tries++) {
            due("30 goes back, too long", Due.with(GOES_BACK).dimension(0, tries), -3);
        }
        for (int tries : new int[] {0, 100001, -1, LOW, HIGH, LOW + 1}) {
            due("30 tries " + tries, Due.with(CHAIN_8).dimension(0, tries), -2);
            due("30 tries ahead of -3", Due.with(CROWN).dimension(0, tries), -2);
        }
    }

    private static void dimensionChangesNothing() {
        OrderGauge g = Due.with(CROWN + "row 543210;");
        due("30 crown", g.dimension(0, 100), 3);
        dueRows("30 rows stay", g, "row 543210;");
        due("30 no act", g.count(1), 1);
    }

    // 31: "The THING at place i of a ROW. -2."
    private static void rowFirstAndLast() {
        OrderGauge g = Due.with(FREE_8 + "row 01234567;row 01234567;row 01234567;row 01234567;row 01234567;row 70123456;");
        due("31 first", g.row(0, 0, 0), 0);
        due("31 last", g.row(0, 5, 7), 6);
        due("31 first of the last", g.row(0, 5, 0), 7);
        due("31 row 6", g.row(0, 6, 0), -2);
        due("31 row -1", g.row(0, -1, 7), -2);
        due("31 place 8", g.row(0, 4, 8), -2);
        due("31 place -1", g.row(0, 5, -1), -2);
        due("31 one", Due.with(ONE + "row 0;").row(0, 0, 0), 0);
        due("31 place 1 of one", Due.with(ONE + "row 0;").row(0, 0, 1), -2);
        due("31 no rows", Due.with(ONE).row(0, 0, 0), -2);
    }

    // 32: "how many ROWS .. -5: there are 6 ROWS"
    private static void addsUpToSix() {
        OrderGauge g = Due.with(FREE_8);
        for (int rows = 1; rows <= 6; rows++) {
            due("32 adds", g.adds(0, 40320 - rows), rows);
        }
        due("32 a seventh", g.adds(0, 0), -5);
        due("32 still six", g.look(0, 8), 6);
        due("32 no act", g.count(1), 7);
        due("32 the first row", g.rank(0, 0), 40319);
        due("32 the sixth row", g.rank(0, 5), 40314);
        due("33 one goes", g.takes(0, 0), 5);
        due("32 one comes", g.adds(0, 0), 6);
        due("32 behind the others", g.rank(0, 5), 0);
        due("32 behind told ones", Due.with("order 2:0<1;row 10;").adds(0, 0), 2);
    }

    // 32: "NONE: not so many LINES; .. (NONE first); -2 (k below 0, too)"
    private static void addsNoneFirst() {
        OrderGauge g = Due.with("order 3:0<1;row 210;row 210;row 210;row 210;row 210;");
        due("32 just so many", g.adds(0, 3), -1);
        due("32 greatest k", g.adds(0, HIGH), -1);
        due("32 k -1", g.adds(0, -1), -2);
        due("32 no act", g.count(1), 1);
        due("32 the last line", g.adds(0, 2), 6);
        due("32 six", g.adds(0, 2), -5);
        due("32 NONE first", g.adds(0, 3), -1);
        due("32 NONE first, greatest", g.adds(0, HIGH), -1);
        due("32 k -1 first", g.adds(0, -1), -2);
        due("32 least k first", g.adds(0, LOW), -2);
        dueRows("32 rows", g, "row 210;row 210;row 210;row 210;row 210;row 201;");
    }

    // 33: "A ROW goes, those behind it have a number less: how many there are. -2."
    private static void takesUpToNone() {
        String text = "order 3;row 012;row 021;row 102;row 120;row 201;row 210;";
        OrderGauge g = Due.with(text);
        due("33 row 6", g.takes(0, 6), -2);
        due("33 row -1", g.takes(0, -1), -2);
        due("33 no act", g.count(1), 1);
        due("33 the last", g.takes(0, 5), 5);
        due("33 it is not there", g.takes(0, 5), -2);
        due("33 the first", g.takes(0, 0), 4);
        dueRows("33 those behind", g, "row 021;row 102;row 120;row 201;");
        due("33 between", g.takes(0, 1), 3);
        dueRows("33 those behind it alone", g, "row 021;row 120;row 201;");
        due("33 three", g.takes(0, 0), 2);
        due("33 two", g.takes(0, 0), 1);
        due("33 one", g.takes(0, 0), 0);
        due("33 none", g.takes(0, 0), -2);
        due("33 acts", g.count(1), 7);
        for (int acts = 6; acts >= 1; acts--) {
            due("42 undo", g.undo(), acts);
        }
        dueRows("42 all are back", g, text.substring(8));
    }
}
