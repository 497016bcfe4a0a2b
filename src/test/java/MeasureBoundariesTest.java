/** Boundary cases of promises 7 to 24 and of the terms they use: a method for each sentence. */
public final class MeasureBoundariesTest {
    private static final Due DUE = new Due();
    private static final int HIGH = Integer.MAX_VALUE;

    private static final String ONE = "order 1;";
    private static final String FREE_8 = "order 8;";
    private static final String CHAIN_8 = "order 8:0<1<2<3<4<5<6<7;";
    private static final String N_SHAPE = "order 4:0<2,1<2,1<3;";
    private static final String PENTAGON = "order 5:0<1<2<4,0<3<4;";

    public static void main(String[] args) {
        lookAtLeastAndMost();
        coversHaveNoneBetween();
        heightAndWidth();
        idealsWithNoneAndAll();
        partsHangTogether();
        rowsCounted();
        ofLeavesOutTheThing();
        isChain();
        isAllFree();
        isWithoutN();
        isWithoutTwoAndTwo();
        isWithoutThreeAndOne();
        isLattice();
        isLevelled();
        chainEndsAtItsHeight();
        chainIsTheLeastRow();
        antiIsTheLeastNumber();
        partIsTheFirstWay();
        linesLeastAndMost();
        lineFirstAndLast();
        rankIsTheOtherWayRound();
        rankOfNoLine();
        deepLeastAndMost();
        throughNoneAndAll();
        throughNoIdeal();
        beforeItself();
        atFirstAndLastPlace();
        meanInLowestTerms();
        balanceOfNone();
        balanceOfLikeOnes();
        jumpsLeastAndMost();
        jumperIsTheFirst();
        jumpsOfAnyRow();
        DUE.close("MeasureBoundariesTest");
    }

    private static void due(String what, int got, int want) {
        DUE.due(what, got, want);
    }

    // How many and what an order is does not hang on how its things are named.
    private static void look(int what, String text, int want) {
        for (int[] names : Due.names(text.charAt(6) - '0')) {
            String named = what == 8 ? text : Due.renamed(text, names);
            due("7 look " + what + " of " + named, Due.with(named).look(0, what), want);
        }
    }

    private static void is(int what, String text, int want) {
        for (int[] names : Due.names(text.charAt(6) - '0')) {
            String named = Due.renamed(text, names);
            due("9 is " + what + " of " + named, Due.with(named).is(0, what), want);
        }
    }

    private static void chain(String text, int... want) {
        OrderGauge g = Due.with(text);
        for (int k = 0; k < want.length; k++) {
            due("10 chain " + k + " of " + text, g.chain(0, k), want[k]);
        }
        due("10 just so many of " + text, g.chain(0, want.length), -1);
    }

    private static void line(String text, int k, String want) {
        OrderGauge g = Due.with(text);
        for (int i = 0; i < want.length(); i++) {
            due("14 line " + k + " of " + text, g.line(0, k, i), want.charAt(i) - '0');
        }
        due("14 place behind", g.line(0, k, want.length()), -2);
    }

    private static void jumper(String text, int most, int jumps, String want) {
        OrderGauge g = Due.with(text);
        OrderGauge other = Due.with(text);
        due("22 jumps " + most + " of " + text, other.jumps(0, most), jumps);
        // The other kind asked ahead must not be kept.
        g.jumps(0, 1 - most);
        for (int i = 0; i < want.length(); i++) {
            due("23 jumper " + most + " of " + text, g.jumper(0, most, i), want.charAt(i) - '0');
        }
        due("23 place behind", g.jumper(0, most, want.length()), -2);
    }

    // 7: all counts of the least order, of a chain of eight and of eight free ones
    private static void lookAtLeastAndMost() {
        int[] ofOne = {1, 0, 0, 1, 1, 0, 2, 1, 0};
        int[] ofChain = {8, 28, 7, 8, 1, 0, 9, 1, 0};
        int[] ofFree = {8, 0, 0, 1, 8, 28, 256, 8, 0};
        for (int what = 0; what < 9; what++) {
            look(what, ONE, ofOne[what]);
            look(what, CHAIN_8, ofChain[what]);
            look(what, FREE_8, ofFree[what]);
        }
        due("7 what 9", Due.with(ONE).look(0, 9), -2);
        due("7 what -1", Due.with(ONE).look(0, -1), -2);
    }

    // I: "a is BELOW b, and none is between them"
    private static void coversHaveNoneBetween() {
        look(2, "order 3:0<2;", 1);
        look(2, "order 3:0<2,0<1;", 2);
        look(2, "order 3:0<2,0<1<2;", 2);
        look(2, "order 4:0<1<3,0<2<3,0<3;", 4);
        look(2, "order 8:0<4,0<5,0<6,0<7,1<4,1<5,1<6,1<7,2<4,2<5,2<6,2<7,3<4,3<5,3<6,3<7;", 16);
        OrderGauge g = Due.with("order 4:0<1<3,2<3;");
        due("8 covers", g.of(0, 3, 3), 0b0110);
        due("8 is covered", g.of(0, 0, 4), 0b0010);
        due("8 nothing is covered by the least", g.of(0, 0, 3), 0);
        due("8 nothing covers the last", g.of(0, 3, 4), 0);
        g = Due.with("order 3:1<0<2;");
        due("8 thing 0 between, from above", g.of(0, 2, 3), 1);
        due("8 thing 0 between, from below", g.of(0, 1, 4), 1);
    }

    // I: HEIGHT, WIDTH
    private static void heightAndWidth() {
        for (int height = 1; height <= 8; height++) {
            String text = height == 1 ? FREE_8 : "order 8:" + "0<1<2<3<4<5<6<7".substring(0, 2 * height - 1) + ";";
            look(3, text, height);
            look(4, text, 9 - height);
        }
        look(3, "order 4:0<1,2<3;", 2);
        look(4, "order 4:0<1,2<3;", 2);
        // Three are free by twos, but not all three of one another.
        look(4, "order 3:0<2;", 2);
    }

    // I: "IDEAL: a set of THINGS with all that are BELOW them (none, all, too)"
    private static void idealsWithNoneAndAll() {
        look(6, ONE, 2);
        look(6, "order 2;", 4);
        look(6, "order 2:1<0;", 3);
        look(6, "order 3:0<1,0<2;", 5);
        look(6, "order 3:0<2,1<2;", 5);
    }

    // I: "PARTS: as twos of which one is BELOW the other hang THINGS together"
    private static void partsHangTogether() {
        look(7, "order 8:0<1,2<1,2<3,4<3,4<5,6<5,6<7;", 1);
        look(7, "order 8:0<1,2<1,2<3,4<5,6<5,6<7;", 2);
        // The things that hang the first and the second together come last.
        look(7, "order 8:0<7,1<6,5<6,5<7;", 4);
        look(7, "order 8:7<0,6<1,6<5,7<5,4<2,4<3,3<5;", 1);
        look(7, "order 2;", 2);
    }

    // 7: "8: ROWS"
    private static void rowsCounted() {
        StringBuilder text = new StringBuilder("order 1;");
        for (int rows = 0; rows <= 6; rows++) {
            look(8, text.toString(), rows);
            text.append("row 0;");
        }
    }

    // I: "FREE of one another: .. (unlike ones)"; 8: none is below, above or free of itself
    private static void ofLeavesOutTheThing() {
        for (int thing = 0; thing < 8; thing++) {
            due("8 free of it", Due.with(FREE_8).of(0, thing, 2), 255 & ~(1 << thing));
            due("8 below it", Due.with(CHAIN_8).of(0, thing, 0), (1 << thing) - 1);
            due("8 above it", Due.with(CHAIN_8).of(0, thing, 1), 254 << thing & 255);
            due("8 none is free of it", Due.with(CHAIN_8).of(0, thing, 2), 0);
            due("8 it covers", Due.with(CHAIN_8).of(0, thing, 3), thing == 0 ? 0 : 1 << thing - 1);
            due("8 covers it", Due.with(CHAIN_8).of(0, thing, 4), thing == 7 ? 0 : 2 << thing);
        }
        for (int what = 0; what < 5; what++) {
            due("8 the only one", Due.with(ONE).of(0, 0, what), 0);
        }
        due("8 what 5", Due.with(ONE).of(0, 0, 5), -2);
        due("8 what -1", Due.with(ONE).of(0, 0, -1), -2);
    }

    // 9: "0: a CHAIN"
    private static void isChain() {
        is(0, ONE, 1);
        is(0, CHAIN_8, 1);
        is(0, "order 8:0<2<3<4<5<6<7,1<2;", 0);
        is(0, "order 8:0<1<2<3<4<5<6,5<7;", 0);
        is(0, "order 2;", 0);
        due("9 what 7", Due.with(ONE).is(0, 7), -2);
        due("9 what -1", Due.with(ONE).is(0, -1), -2);
    }

    // 9: "1: all FREE"
    private static void isAllFree() {
        is(1, ONE, 1);
        is(1, FREE_8, 1);
        is(1, "order 8:7<6;", 0);
        is(1, "order 8:0<1;", 0);
    }

    // I: "a is BELOW c, b BELOW c, b BELOW d, all other twos FREE"
    private static void isWithoutN() {
        is(2, N_SHAPE, 0);
        is(2, "order 4:3<1,2<1,2<0;", 0);
        is(2, "order 4:0<2,1<2,1<3,0<3;", 1);
        is(2, "order 4:1<2,1<3;", 1);
        is(2, "order 4:0<2,1<2;", 1);
        is(2, "order 4:0<2,1<3;", 1);
        is(2, "order 4:0<2,1<2,1<3,0<1;", 1);
        is(2, "order 4:0<2,1<2,1<3,2<3;", 1);
        is(2, "order 4:0<2,1<2,1<3,3<2;", 1);
        is(2, "order 4:0<2,1<2,1<3,1<0;", 1);
        is(2, "order 3:0<2,1<2;", 1);
        // The last four of eight, above all others.
        is(2, "order 8:0<1<2<3,3<4,3<5,4<6,5<6,5<7;", 0);
        is(2, "order 8:0<1<2<3,3<4,3<5,4<6,5<6,5<7,4<7;", 1);
    }

    // I: "a BELOW b, c BELOW d, all other twos FREE"
    private static void isWithoutTwoAndTwo() {
        is(3, "order 4:0<1,2<3;", 0);
        is(3, "order 4:3<0,2<1;", 0);
        is(3, "order 4:0<1,2<3,0<3;", 1);
        is(3, "order 4:0<1,2<3,2<1;", 1);
        is(3, "order 4:0<1,2<3,0<2;", 1);
        is(3, "order 4:0<1,2<3,1<3;", 1);
        is(3, "order 4:0<1;", 1);
        is(3, "order 8:0<1<2<3,3<4<5,3<6<7;", 0);
        is(3, "order 8:0<1<2<3,3<4<5,3<6<7,4<7;", 1);
    }

    // I: "a BELOW b, b BELOW c, d FREE of all three"; 9: "4: without THREE AND ONE (and 3)"
    private static void isWithoutThreeAndOne() {
        is(4, "order 4:0<1<2;", 0);
        is(4, "order 4:3<2<1;", 0);
        is(4, "order 4:0<1<2,3<2;", 1);
        is(4, "order 4:0<1<2,0<3;", 1);
        is(4, "order 4:0<1,0<2;", 1);
        is(4, "order 3:0<1;", 1);
        // Without three and one, but with two and two.
        is(4, "order 4:0<1,2<3;", 0);
        // With three and one, but without two and two.
        is(3, "order 4:0<1<2;", 1);
        is(4, "order 8:0<1<2<3,3<4<5<6,3<7;", 0);
        is(4, "order 8:0<1<2<3,3<4<5<6,3<7,4<7;", 1);
    }

    // I: "there is one .. that is BELOW all others such, and likewise from above"
    private static void isLattice() {
        is(5, ONE, 1);
        is(5, "order 2:0<1;", 1);
        is(5, "order 2;", 0);
        is(5, "order 3:0<1,0<2;", 0);
        is(5, "order 3:0<2,1<2;", 0);
        is(5, "order 4:0<1<3,0<2<3;", 1);
        is(5, PENTAGON, 1);
        is(5, CHAIN_8, 1);
        // Two above both 1 and 2, and neither of the two below the other.
        is(5, "order 6:0<1,0<2,1<3,1<4,2<3,2<4,3<5,4<5;", 0);
        is(5, "order 7:0<1,0<2,1<6,2<6,6<3,6<4,3<5,4<5;", 1);
        is(5, "order 8:0<1<4<7,0<2<5<7,0<3<6<7,1<5,2<6,3<4;", 1);
    }

    // I: "just one THING more than that which ends with the lower one"
    private static void isLevelled() {
        is(6, ONE, 1);
        is(6, FREE_8, 1);
        is(6, CHAIN_8, 1);
        is(6, PENTAGON, 0);
        is(6, "order 6:0<1<2<4,0<3<5<4;", 1);
        // By chains that end with a thing, not by those that begin with it.
        is(6, "order 4:0<1<3,2<3;", 0);
        is(6, "order 4:3<1<0,3<2;", 1);
    }

    // 10: "NONE: not so many; -2 (k below 0, too)"
    private static void chainEndsAtItsHeight() {
        chain(ONE, 0);
        chain(CHAIN_8, 0, 1, 2, 3, 4, 5, 6, 7);
        chain(FREE_8, 0);
        OrderGauge g = Due.with(CHAIN_8);
        due("10 greatest k", g.chain(0, HIGH), -1);
        due("10 k 32", g.chain(0, 32), -1);
        due("10 k -1", g.chain(0, -1), -2);
        due("10 k -1 ahead of NONE", Due.with(ONE).chain(0, -1), -2);
    }

    // 10: "of as long ones the least as rows"
    private static void chainIsTheLeastRow() {
        chain("order 4:3<0,2<1;", 2, 1);
        chain("order 4:1<3,1<2;", 1, 2);
        chain("order 5:4<0<1,2<3<1;", 2, 3, 1);
        chain("order 5:0<1,2<3<4;", 2, 3, 4);
        chain("order 6:0<5<1,0<3<4;", 0, 3, 4);
    }

    // 11: "of as many the least number"
    private static void antiIsTheLeastNumber() {
        due("11 one", Due.with(ONE).anti(0), 1);
        due("11 chain", Due.with(CHAIN_8).anti(0), 1);
        due("11 free", Due.with(FREE_8).anti(0), 255);
        due("11 the only two", Due.with("order 4:0<1,0<2,1<3,2<3;").anti(0), 6);
        // 0 with 3 are free, as are 1 with 2: 9 and 6.
        due("11 least number", Due.with("order 4:0<1,0<2,3<1,3<2;").anti(0), 6);
        due("11 last three", Due.with("order 8:0<1<2<3<4,4<5,4<6,4<7;").anti(0), 0b11100000);
    }

    // 12: "THINGS by number, each into the least CHAIN; a CHAIN is begun only behind the one ahead of it"
    private static void partIsTheFirstWay() {
        String[] texts = {ONE, CHAIN_8, FREE_8, "order 4:0<1,2<3;", "order 4:0<3,1<2;", "order 4:0<1,0<2,3<1;",
            "order 5:0<1,0<2,3<1,3<4;"};
        String[] wants = {"0", "00000000", "01234567", "0011", "0110", "0101", "00122"};
        for (int k = 0; k < texts.length; k++) {
            OrderGauge g = Due.with(texts[k]);
            for (int thing = 0; thing < wants[k].length(); thing++) {
                due("12 part " + thing + " of " + texts[k], g.part(0, thing), wants[k].charAt(thing) - '0');
            }
            due("12 behind the last", g.part(0, wants[k].length()), -2);
            due("12 below the first", g.part(0, -1), -2);
        }
    }

    // 13: the fewest and the most
    private static void linesLeastAndMost() {
        due("13 one", Due.with(ONE).lines(0), 1);
        due("13 chain", Due.with(CHAIN_8).lines(0), 1);
        due("13 free", Due.with(FREE_8).lines(0), 40320);
        due("13 all but one free", Due.with("order 8:7<0;").lines(0), 20160);
        due("13 chain but the last two", Due.with("order 8:0<1<2<3<4<5<6,5<7;").lines(0), 2);
    }

    // 14: "NONE: not so many; -2 (k below 0, i 0 .. N less 1)"
    private static void lineFirstAndLast() {
        line(ONE, 0, "0");
        line(FREE_8, 0, "01234567");
        line(FREE_8, 40319, "76543210");
        line("order 8:7<0;", 0, "12345670");
        line("order 8:7<0;", 20159, "76543210");
        OrderGauge g = Due.with(FREE_8);
        for (int i = 0; i < 8; i++) {
            due("14 not so many", g.line(0, 40320, i), -1);
            due("14 greatest k", g.line(0, HIGH, i), -1);
            due("14 k -1", g.line(0, -1, i), -2);
        }
        due("14 i 8", g.line(0, 40319, 8), -2);
        due("14 i -1", g.line(0, 0, -1), -2);
        due("14 i 8 ahead of NONE", g.line(0, 40320, 8), -2);
        due("14 i -1 ahead of NONE", g.line(0, 40320, -1), -2);
        due("14 second of one", Due.with(ONE).line(0, 1, 0), -1);
    }

    // 15: "The how-manieth LINE (from 0) a ROW is."
    private static void rankIsTheOtherWayRound() {
        for (String text : new String[] {N_SHAPE, PENTAGON, "order 4;", "order 6:5<0,4<1,3<2;", CHAIN_8}) {
            OrderGauge g = Due.with(text);
            int lines = g.lines(0);
            for (int k = 0; k < lines; k++) {
                due("32 adds", g.adds(0, k), 1);
                due("15 rank of line " + k + " of " + text, g.rank(0, 0), k);
                g.takes(0, 0);
            }
        }
        due("15 last of all", Due.with(FREE_8 + "row 76543210;").rank(0, 0), 40319);
        due("15 sixth row", Due.with("order 2;row 01;row 01;row 01;row 01;row 01;row 10;").rank(0, 5), 1);
        due("15 seventh row", Due.with("order 2;row 01;row 01;row 01;row 01;row 01;row 10;").rank(0, 6), -2);
    }

    // 15: "NONE: it is no LINE; -2."
    private static void rankOfNoLine() {
        OrderGauge g = Due.with("order 3:0<1<2;row 012;row 021;row 102;row 210;");
        due("15 a line", g.rank(0, 0), 0);
        due("15 the last two turned", g.rank(0, 1), -1);
        due("15 the first two turned", g.rank(0, 2), -1);
        due("15 all turned", g.rank(0, 3), -1);
        due("15 no such row", g.rank(0, 4), -2);
        due("15 row -1", g.rank(0, -1), -2);
    }

    // 16: "that ends with a THING (what 0), that begins with it (1)"
    private static void deepLeastAndMost() {
        OrderGauge g = Due.with(CHAIN_8);
        for (int thing = 0; thing < 8; thing++) {
            due("16 ends", g.deep(0, thing, 0), thing + 1);
            due("16 begins", g.deep(0, thing, 1), 8 - thing);
            due("16 free ends", Due.with(FREE_8).deep(0, thing, 0), 1);
            due("16 free begins", Due.with(FREE_8).deep(0, thing, 1), 1);
        }
        due("16 longest of two", Due.with(PENTAGON).deep(0, 4, 0), 4);
        due("16 longest of two, begun", Due.with(PENTAGON).deep(0, 0, 1), 4);
        due("16 what 2", g.deep(0, 0, 2), -2);
        due("16 what -1", g.deep(0, 0, -1), -2);
    }

    // 17: "a set (bits, 0 .. 2 to the N less 1)"
    private static void throughNoneAndAll() {
        for (int n = 1; n <= 8; n++) {
            OrderGauge g = Due.with("order " + n + ";");
            int all = (1 << n) - 1;
            due("17 none", g.through(0, 0), g.lines(0));
            due("17 all", g.through(0, all), g.lines(0));
            due("17 beyond all", g.through(0, all + 1), -2);
            due("17 below 0", g.through(0, -1), -2);
        }
        OrderGauge g = Due.with(FREE_8);
        due("17 one", g.through(0, 128), 5040);
        due("17 half", g.through(0, 0b10101010), 576);
        due("17 far", g.through(0, HIGH), -2);
        due("17 least", g.through(0, Integer.MIN_VALUE), -2);
    }

    // 17: "(0, if it is no IDEAL)"
    private static void throughNoIdeal() {
        OrderGauge g = Due.with(CHAIN_8);
        for (int set = 0; set < 256; set++) {
            due("17 set " + set, g.through(0, set), (set & set + 1) == 0 ? 1 : 0);
        }
        due("17 of an N, an ideal", Due.with(N_SHAPE).through(0, 0b1010), 1);
        due("17 of an N, none", Due.with(N_SHAPE).through(0, 0b1001), 0);
    }

    // 18: "(0, if they are one)"
    private static void beforeItself() {
        OrderGauge free = Due.with(FREE_8);
        OrderGauge chain = Due.with(CHAIN_8);
        for (int a = 0; a < 8; a++) {
            for (int b = 0; b < 8; b++) {
                due("18 free", free.before(0, a, b), a == b ? 0 : 20160);
                due("18 chain", chain.before(0, a, b), a < b ? 1 : 0);
            }
        }
        due("18 one", Due.with(ONE).before(0, 0, 0), 0);
        due("18 one that is none", Due.with(ONE).before(0, 1, 1), -2);
        due("18 one that is none, below", Due.with(ONE).before(0, -1, -1), -2);
    }

    // 19: "-2 (i 0 .. N less 1)"
    private static void atFirstAndLastPlace() {
        OrderGauge free = Due.with(FREE_8);
        OrderGauge chain = Due.with(CHAIN_8);
        for (int thing = 0; thing < 8; thing++) {
            for (int i = 0; i < 8; i++) {
                due("19 free", free.at(0, thing, i), 5040);
                due("19 chain", chain.at(0, thing, i), thing == i ? 1 : 0);
            }
            due("19 i 8", free.at(0, thing, 8), -2);
            due("19 i -1", free.at(0, thing, -1), -2);
        }
        due("19 one", Due.with(ONE).at(0, 0, 0), 1);
        due("19 i 1 of one", Due.with(ONE).at(0, 0, 1), -2);
    }

    // 20: "in lowest terms, what 0: above, 1: below the line"
    private static void meanInLowestTerms() {
        OrderGauge free = Due.with(FREE_8);
        OrderGauge chain = Due.with(CHAIN_8);
        for (int thing = 0; thing < 8; thing++) {
            due("20 free above", free.mean(0, thing, 0), 7);
            due("20 free below", free.mean(0, thing, 1), 2);
            due("20 chain above", chain.mean(0, thing, 0), thing);
            due("20 chain below", chain.mean(0, thing, 1), 1);
        }
        due("20 nought above", Due.with(ONE).mean(0, 0, 0), 0);
        due("20 nought below", Due.with(ONE).mean(0, 0, 1), 1);
        // Thing 7 is at each place of eight lines once; 0 is behind it in one of them.
        due("20 many lines above", Due.with("order 8:0<1<2<3<4<5<6;").mean(0, 0, 0), 1);
        due("20 many lines below", Due.with("order 8:0<1<2<3<4<5<6;").mean(0, 0, 1), 8);
        due("20 what 2", free.mean(0, 0, 2), -2);
        due("20 what -1", free.mean(0, 0, -1), -2);
    }

    // 21: "NONE: there are none; -2."
    private static void balanceOfNone() {
        for (int what = 0; what < 2; what++) {
            due("21 chain", Due.with(CHAIN_8).balance(0, what), -1);
            due("21 one", Due.with(ONE).balance(0, what), -1);
        }
        due("21 what 2 ahead of NONE", Due.with(CHAIN_8).balance(0, 2), -2);
        due("21 what -1 ahead of NONE", Due.with(CHAIN_8).balance(0, -1), -2);
        due("21 just one", Due.with("order 8:0<1<2<3<4<5<6,5<7;").balance(0, 0), 67);
        due("21 just one, many", Due.with("order 8:0<1<2<3<4<5<6,5<7;").balance(0, 1), 1);
    }

    // II: "of like ones by the lesser THING, then the other one"; "without sign"
    private static void balanceOfLikeOnes() {
        due("21 all like", Due.with(FREE_8).balance(0, 0), 1);
        due("21 all like, many", Due.with(FREE_8).balance(0, 1), 20160);
        // 0 ahead of 1 in a third, 0 ahead of 2 in two thirds: alike without sign.
        due("21 a third and two thirds", Due.with("order 3:1<2;").balance(0, 0), 1);
        due("21 a third", Due.with("order 3:1<2;").balance(0, 1), 1);
        due("21 two thirds first", Due.with("order 3:2<1;").balance(0, 0), 1);
        due("21 two thirds", Due.with("order 3:2<1;").balance(0, 1), 2);
        due("21 the second thing", Due.with("order 4:0<1,0<2,0<3,1<2;").balance(0, 0), 13);
        due("21 a nearer one that comes later", Due.with("order 4:1<2<3;").balance(0, 0), 2);
        due("21 nearer, many", Due.with("order 4:1<2<3;").balance(0, 1), 2);
    }

    // 22: "The fewest (most 0), the most (1) JUMPS that a LINE has."
    private static void jumpsLeastAndMost() {
        for (int most = 0; most < 2; most++) {
            due("22 one", Due.with(ONE).jumps(0, most), 0);
            due("22 chain", Due.with(CHAIN_8).jumps(0, most), 0);
            due("22 free", Due.with(FREE_8).jumps(0, most), 7);
        }
        due("22 fewest", Due.with("order 8:0<1<2<3,4<5<6<7;").jumps(0, 0), 1);
        due("22 most", Due.with("order 8:0<1<2<3,4<5<6<7;").jumps(0, 1), 7);
        due("22 most 2", Due.with(ONE).jumps(0, 2), -2);
        due("22 most -1", Due.with(ONE).jumps(0, -1), -2);
    }

    // 23: "of the first LINE with so few, so many"
    private static void jumperIsTheFirst() {
        jumper(ONE, 0, 0, "0");
        jumper(ONE, 1, 0, "0");
        jumper(FREE_8, 0, 7, "01234567");
        jumper(FREE_8, 1, 7, "01234567");
        jumper("order 4:0<1,2<3;", 0, 1, "0123");
        jumper("order 4:0<1,2<3;", 1, 3, "0213");
        jumper("order 4:3<0,2<1;", 0, 1, "2130");
        jumper("order 4:3<0,2<1;", 1, 3, "2310");
        jumper(N_SHAPE, 0, 1, "1302");
        jumper(N_SHAPE, 1, 3, "1032");
        jumper("order 8:0<1<2<3,4<5<6<7;", 1, 7, "04152637");
    }

    // 24: "JUMPS of a ROW (whether it is a LINE or not)."
    private static void jumpsOfAnyRow() {
        due("24 one", Due.with("order 1;row 0;").jumpsOf(0, 0), 0);
        OrderGauge g = Due.with("order 8:0<1<2<3<4<5<6<7;row 01234567;row 76543210;row 12345670;row 02461357;");
        due("24 a line", g.jumpsOf(0, 0), 0);
        due("24 turned over", g.jumpsOf(0, 1), 7);
        due("24 one that is no line", g.jumpsOf(0, 2), 1);
        due("24 below, though not covered", g.jumpsOf(0, 3), 1);
        due("24 row 4", g.jumpsOf(0, 4), -2);
        due("24 row -1", g.jumpsOf(0, -1), -2);
    }
}
