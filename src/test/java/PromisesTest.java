/** Each promise of the document by its number: ordinary inputs, edges, wrong inputs. */
public final class PromisesTest {
    private static final Due DUE = new Due();

    private static final int LOW = Integer.MIN_VALUE;
    private static final int HIGH = Integer.MAX_VALUE;

    private static final String N_SHAPE = "order 4:0<2,1<2,1<3;";
    private static final String CUBE = "order 8:0<1<4<7,0<2<5<7,0<3<6<7,1<5,2<6,3<4;";
    private static final String PENTAGON = "order 5:0<1<2<4,0<3<4;";
    private static final String TWO_TWO = "order 4:0<1,2<3;";
    private static final String THREE_ONE = "order 4:0<1<2;";
    private static final String CROWN = "order 6:0<4,0<5,1<3,1<5,2<3,2<4;";
    private static final String FOUR_FOUR = "order 8:0<5,0<6,0<7,1<4,1<6,1<7,2<4,2<5,2<7,3<4,3<5,3<6;";
    private static final String FREE_8 = "order 8;";
    private static final String CHAIN_8 = "order 8:7<6<5<4<3<2<1<0;";
    private static final String BIPARTITE = "order 8:0<4,0<5,0<6,0<7,1<4,1<5,1<6,1<7,2<4,2<5,2<6,2<7,3<4,3<5,3<6,3<7;";

    public static void main(String[] args) {
        newObject();
        feedAndEnd();
        toldAndFault();
        faultsInOrder();
        count();
        look();
        of();
        is();
        chain();
        anti();
        part();
        lines();
        rank();
        deep();
        through();
        before();
        at();
        mean();
        balance();
        jumps();
        critical();
        rowsAre();
        ahead();
        realizes();
        dimension();
        row();
        adds();
        takes();
        puts();
        cuts();
        flip();
        without();
        joins();
        alike();
        selves();
        drops();
        undo();
        tell();
        slotsThatAreNone();
        DUE.close("PromisesTest");
    }

    private static void due(String what, int got, int want) {
        DUE.due(what, got, want);
    }

    private static void dueText(String what, String got, String want) {
        DUE.holds(what + " is " + got + ", due is " + want, got.equals(want));
    }

    // Promise 1
    private static void newObject() {
        OrderGauge g = new OrderGauge();
        due("1 count(0)", g.count(0), 0);
        for (int slot = 0; slot < 3; slot++) {
            due("1 look", g.look(slot, 0), -2);
            due("1 drops", g.drops(slot), 0);
        }
        due("1 count(1)", g.count(1), 0);
        due("1 undo", g.undo(), -1);
        due("1 octet", g.octet(0), -1);
        due("1 NONE", OrderGauge.NONE, -1);
    }

    // Promises 2 and 3
    private static void feedAndEnd() {
        OrderGauge g = new OrderGauge();
        for (int i = 1; i <= 20; i++) {
            due("2 feed", g.feed(1, 2, 3, 4, 5), 20 * i);
        }
        due("2 feed beyond 400", g.feed(1, 2, 3, 4, 5), -1);
        due("2 none come", g.count(2), 400);
        due("3 end too far", g.end(401), -1);
        due("3 end below 0", g.end(-1), -1);
        due("3 end least", g.end(LOW), -1);
        due("3 end greatest", g.end(HIGH), -1);
        due("3 nothing happens", g.count(2), 400);
        due("3 end all", g.end(400), 400);
        due("3 end", g.end(381), 381);
        due("2 feed to 401", g.feed(1, 2, 3, 4, 5), -1);
        due("3 end", g.end(380), 380);
        due("2 feed to 400", g.feed(1, 2, 3, 4, 5), 400);
        due("3 end none", g.end(0), 0);
        due("3 not so many", g.end(1), -1);
        // The highest byte first, bytes above 127 too.
        Due.feed(g, "order 2;row 01;row 10;");
        due("2 order of bytes", g.told(0), 0);
        g.feed(0x6f726465, 0x7220323b, 0xff000000, 0, 0);
        g.end(9);
        due("2 byte 255", g.told(0), -4);
        due("2 byte 255 is no token", g.fault(0), 1);
        due("2 byte 255 place", g.fault(1), 8);
        // What was cut does not come back.
        Due.feed(g, "order 3;");
        g.end(5);
        due("3 cut text", g.feed(0x20313b20, 0x20202020, 0x20202020, 0x20202020, 0x20202020), 25);
        due("3 told behind a cut", g.told(1), 0);
        due("3 N behind a cut", g.look(1, 0), 1);
    }

    // Promises 4 and 5
    private static void toldAndFault() {
        OrderGauge g = new OrderGauge();
        due("5 ahead of any, 0", g.fault(0), 0);
        due("5 ahead of any, 1", g.fault(1), -1);
        due("5 other what", g.fault(2), -1);
        due("5 what below 0", g.fault(-1), -1);
        due("4 with what follows", Due.tell(g, 0, "order 4:0<1<2,2<3;"), 6);
        due("4 tape is empty", g.count(2), 0);
        due("5 no fault", g.fault(0), 0);
        due("5 no place", g.fault(1), -1);
        Due.feed(g, "order 2:0<1");
        due("4 no such slot", g.told(3), -2);
        due("4 no such slot below", g.told(-1), -2);
        due("4 tape stays", g.count(2), 11);
        due("5 -2 is no telling", g.fault(0), 0);
        due("4 a fault", g.told(0), -4);
        due("4 tape empty behind a fault", g.count(2), 0);
        due("4 order stays", g.look(0, 1), 6);
        due("4 no act", g.count(1), 1);
        due("5 fault", g.fault(0), 1);
        due("5 place", g.fault(1), 11);
        due("4 -2 again", g.told(7), -2);
        due("5 fault stays", g.fault(0), 1);
        due("5 place stays", g.fault(1), 11);
        due("4 rows", Due.tell(g, 1, " order\n2 : 0 < 1 ;row01;\nrow 10 ; "), 1);
        due("4 rows told", g.look(1, 8), 2);
        due("4 a row that is no line", g.rank(1, 1), -1);
        due("4 same twice", Due.tell(g, 2, "order 3:0<1,0<1,1<2,0<2;"), 3);
        due("4 zeros ahead", Due.tell(g, 2, "order 003:00<0001;"), 1);
        due("4 six rows", Due.tell(g, 2, "order 1;row 0;row 0;row 0;row 0;row 0;row 0;"), 0);
        due("4 six rows told", g.look(2, 8), 6);
        due("4 eight things", Due.tell(g, 2, CHAIN_8), 28);
        int acts = g.count(1);
        due("4 the same order", Due.tell(g, 2, "order 8:7<6<5<4<3<2<1<0,7<0;"), 28);
        due("III told as it was is no act", g.count(1), acts);
        due("4 the same with a row", Due.tell(g, 2, CHAIN_8 + "row 76543210;"), 28);
        due("III told with a row is one", g.count(1), acts + 1);
    }

    private static void isFault(String text, int kind, int place) {
        OrderGauge g = Due.with("order 1;");
        due("4 \"" + text + "\"", Due.tell(g, 0, text), -4);
        due("5 kind of \"" + text + "\"", g.fault(0), kind);
        due("5 place of \"" + text + "\"", g.fault(1), place);
        due("4 stays", g.look(0, 0), 1);
    }

    // Promises 4 and 5: the faults of term I
    private static void faultsInOrder() {
        isFault("", 1, 0);
        isFault("   ", 1, 3);
        isFault("ordr 3;", 1, 0);
        isFault("orders 3;", 1, 0);
        isFault("Order 3;", 1, 0);
        isFault("row 0;", 1, 0);
        isFault("order", 1, 5);
        isFault("order  ;", 1, 7);
        isFault("order 3", 1, 7);
        isFault("order 3  \n", 1, 10);
        isFault("order -3;", 1, 6);
        isFault("order 3 3;", 1, 8);
        isFault("order\t3;", 1, 5);
        isFault("order 0;", 2, 6);
        isFault("order 9;", 2, 6);
        isFault("order 4294967297;", 2, 6);
        isFault("order 9:@", 2, 6);
        isFault("order 3:;", 1, 8);
        isFault("order 3:0;", 1, 9);
        isFault("order 3:0<;", 1, 10);
        isFault("order 3:0<1,;", 1, 12);
        isFault("order 3:0<1 1<2;", 1, 12);
        isFault("order 3:0>1;", 1, 9);
        isFault("order 3:3<0;", 2, 8);
        isFault("order 3:0<3;", 2, 10);
        isFault("order 3:0<1<3;", 2, 12);
        isFault("order 3:0<18446744073709551616;", 2, 10);
        isFault("order 3:1<1;", 3, 10);
        isFault("order 3:0<1<0;", 3, 12);
        isFault("order 3:0<1,1<2,2<0;", 3, 18);
        isFault("order 3:0<1<2<0;", 3, 14);
        isFault("order 2;row 0 1;", 4, 12);
        isFault("order 2;row 011;", 4, 12);
        isFault("order 2;row 02;", 4, 12);
        isFault("order 2;row 11;", 4, 12);
        isFault("order 3;row 010;", 4, 12);
        isFault("order 8;row 01234568;", 4, 12);
        isFault("order 2;row 0;", 4, 12);
        isFault("order 2;row ;", 1, 12);
        isFault("order 2;row a;", 1, 12);
        isFault("order 2;row 01", 1, 14);
        isFault("order 2;row 01,", 1, 14);
        isFault("order 2;row 01;;", 1, 15);
        isFault("order 2;raw 01;", 1, 8);
        isFault("order 2;order 2;", 1, 8);
        isFault("order 2;rowrow 01;", 1, 8);
        isFault("order 1;row 0;row 0;row 0;row 0;row 0;row 0;row", 5, 44);
        isFault("order 1;row 0;row 0;row 0;row 0;row 0;row 0; raw", 1, 45);
    }

    // Promise 6
    private static void count() {
        OrderGauge g = new OrderGauge();
        Due.tell(g, 0, "order 1;");
        Due.tell(g, 2, "order 2;");
        due("6 slots", g.count(0), 5);
        due("6 acts", g.count(1), 2);
        Due.feed(g, "order");
        due("6 tape", g.count(2), 5);
        due("6 out", g.count(3), 0);
        g.tell(2);
        due("6 out told", g.count(3), 8);
        due("6 other", g.count(4), -1);
        due("6 below", g.count(-1), -1);
    }

    private static void looks(String text, int... want) {
        OrderGauge g = Due.with(text);
        for (int what = 0; what < want.length; what++) {
            due("7 look " + what + " of " + text, g.look(0, what), want[what]);
        }
    }

    // Promise 7
    private static void look() {
        looks("order 1;", 1, 0, 0, 1, 1, 0, 2, 1, 0);
        looks(N_SHAPE, 4, 3, 3, 2, 2, 3, 8, 1, 0);
        looks(CUBE, 8, 19, 12, 4, 3, 9, 20, 1, 0);
        looks(PENTAGON, 5, 8, 5, 4, 2, 2, 8, 1, 0);
        looks(TWO_TWO + "row 0123;row 3210;", 4, 2, 2, 2, 2, 4, 9, 2, 2);
        looks(FREE_8, 8, 0, 0, 1, 8, 28, 256, 8, 0);
        looks(CHAIN_8, 8, 28, 7, 8, 1, 0, 9, 1, 0);
        looks(BIPARTITE, 8, 16, 16, 2, 4, 12, 31, 1, 0);
        OrderGauge g = Due.with(N_SHAPE);
        due("7 what 9", g.look(0, 9), -2);
        due("7 what below", g.look(0, -1), -2);
        due("7 what greatest", g.look(0, HIGH), -2);
    }

    // Promise 8
    private static void of() {
        OrderGauge g = Due.with(PENTAGON);
        int[] of2 = {0b00011, 0b10000, 0b01000, 0b00010, 0b10000};
        int[] of3 = {0b00001, 0b10000, 0b00110, 0b00001, 0b10000};
        int[] of4 = {0b01111, 0, 0, 0b01100, 0};
        for (int what = 0; what < 5; what++) {
            due("8 of 2, " + what, g.of(0, 2, what), of2[what]);
            due("8 of 3, " + what, g.of(0, 3, what), of3[what]);
            due("8 of 4, " + what, g.of(0, 4, what), of4[what]);
        }
        due("8 covers of 0", g.of(0, 0, 4), 0b01010);
        due("8 thing 5", g.of(0, 5, 0), -2);
        due("8 thing below", g.of(0, -1, 0), -2);
        due("8 what 5", g.of(0, 0, 5), -2);
        due("8 what below", g.of(0, 0, -1), -2);
    }

    private static void isAre(String text, int... want) {
        OrderGauge g = Due.with(text);
        for (int what = 0; what < want.length; what++) {
            due("9 is " + what + " of " + text, g.is(0, what), want[what]);
        }
    }

    // Promise 9
    private static void is() {
        isAre("order 1;", 1, 1, 1, 1, 1, 1, 1);
        isAre("order 2;", 0, 1, 1, 1, 1, 0, 1);
        isAre("order 2:1<0;", 1, 0, 1, 1, 1, 1, 1);
        isAre(N_SHAPE, 0, 0, 0, 1, 1, 0, 1);
        isAre("order 4:3<1,2<1,2<0;", 0, 0, 0, 1, 1, 0, 1);
        isAre(TWO_TWO, 0, 0, 1, 0, 0, 0, 1);
        isAre(THREE_ONE, 0, 0, 1, 1, 0, 0, 1);
        isAre(PENTAGON, 0, 0, 1, 1, 1, 1, 0);
        isAre(CUBE, 0, 0, 0, 0, 0, 1, 1);
        isAre("order 4:0<2,0<3,1<2,1<3;", 0, 0, 1, 1, 1, 0, 1);
        isAre("order 6:0<1,0<2,1<3,1<4,2<3,2<4,3<5,4<5;", 0, 0, 1, 1, 1, 0, 1);
        isAre("order 3:0<1,0<2;", 0, 0, 1, 1, 1, 0, 1);
        isAre("order 3:1<0,2<0;", 0, 0, 1, 1, 1, 0, 1);
        OrderGauge g = Due.with(N_SHAPE);
        due("9 what 7", g.is(0, 7), -2);
        due("9 what below", g.is(0, -1), -2);
    }

    private static void isChain(String text, int... want) {
        OrderGauge g = Due.with(text);
        for (int k = 0; k < want.length; k++) {
            due("10 chain " + k + " of " + text, g.chain(0, k), want[k]);
        }
        due("10 behind the chain of " + text, g.chain(0, want.length), -1);
    }

    // Promise 10
    private static void chain() {
        isChain(N_SHAPE, 0, 2);
        isChain(CUBE, 0, 1, 4, 7);
        isChain(PENTAGON, 0, 1, 2, 4);
        isChain(CHAIN_8, 7, 6, 5, 4, 3, 2, 1, 0);
        isChain("order 5:4<3<0,1<2<0;", 1, 2, 0);
        isChain("order 5:0<4,1<2<3;", 1, 2, 3);
        isChain("order 1;", 0);
        OrderGauge g = Due.with(N_SHAPE);
        due("10 k below 0", g.chain(0, -1), -2);
        due("10 k greatest", g.chain(0, HIGH), -1);
    }

    // Promise 11
    private static void anti() {
        due("11 N", Due.with(N_SHAPE).anti(0), 3);
        due("11 cube", Due.with(CUBE).anti(0), 0b1110);
        due("11 chain", Due.with(CHAIN_8).anti(0), 1);
        due("11 free", Due.with(FREE_8).anti(0), 255);
        due("11 not the least things", Due.with("order 5:0<2,0<3,0<4,1<2,1<3,1<4;").anti(0), 0b11100);
        due("11 pentagon", Due.with(PENTAGON).anti(0), 0b01010);
    }

    private static void partsAre(String text, int... want) {
        OrderGauge g = Due.with(text);
        for (int thing = 0; thing < want.length; thing++) {
            due("12 part " + thing + " of " + text, g.part(0, thing), want[thing]);
        }
    }

    // Promise 12
    private static void part() {
        partsAre(N_SHAPE, 0, 1, 0, 1);
        partsAre(FREE_8, 0, 1, 2, 3, 4, 5, 6, 7);
        partsAre(CHAIN_8, 0, 0, 0, 0, 0, 0, 0, 0);
        partsAre(PENTAGON, 0, 0, 0, 1, 0);
        // The first way that comes to mind, 0 with 1, would need three chains.
        partsAre("order 4:0<1,0<2,3<1;", 0, 1, 0, 1);
        partsAre(BIPARTITE, 0, 1, 2, 3, 0, 1, 2, 3);
        OrderGauge g = Due.with(N_SHAPE);
        due("12 thing 4", g.part(0, 4), -2);
        due("12 thing below", g.part(0, -1), -2);
    }

    private static String line(OrderGauge g, int k, int things) {
        StringBuilder text = new StringBuilder();
        for (int i = 0; i < things; i++) {
            text.append(g.line(0, k, i));
        }
        return text.toString();
    }

    // Promises 13 and 14
    private static void lines() {
        due("13 N", Due.with(N_SHAPE).lines(0), 5);
        due("13 cube", Due.with(CUBE).lines(0), 48);
        due("13 chain", Due.with(CHAIN_8).lines(0), 1);
        due("13 bipartite", Due.with(BIPARTITE).lines(0), 576);
        OrderGauge g = Due.with(FREE_8);
        due("13 free", g.lines(0), 40320);
        dueText("14 first", line(g, 0, 8), "01234567");
        dueText("14 second", line(g, 1, 8), "01234576");
        dueText("14 5040-th", line(g, 5040, 8), "10234567");
        dueText("14 last", line(g, 40319, 8), "76543210");
        due("14 not so many", g.line(0, 40320, 0), -1);
        due("14 greatest", g.line(0, HIGH, 7), -1);
        due("14 k below", g.line(0, -1, 0), -2);
        due("14 i 8", g.line(0, 0, 8), -2);
        due("14 -2 ahead of NONE", g.line(0, 40320, 8), -2);
        due("14 i below", g.line(0, 0, -1), -2);
        g = Due.with(N_SHAPE);
        String[] all = {"0123", "0132", "1023", "1032", "1302"};
        for (int k = 0; k < all.length; k++) {
            dueText("14 line " + k, line(g, k, 4), all[k]);
        }
    }

    // Promise 15
    private static void rank() {
        OrderGauge g = Due.with(FREE_8 + "row 01234567;row 76543210;row 10234567;");
        due("15 first", g.rank(0, 0), 0);
        due("15 last", g.rank(0, 1), 40319);
        due("15 between", g.rank(0, 2), 5040);
        due("15 no such row", g.rank(0, 3), -2);
        due("15 row below", g.rank(0, -1), -2);
        g = Due.with(N_SHAPE + "row 1302;row 0213;row 1032;");
        due("15 N last", g.rank(0, 0), 4);
        due("15 no line", g.rank(0, 1), -1);
        due("15 N third", g.rank(0, 2), 3);
    }

    // Promise 16
    private static void deep() {
        OrderGauge g = Due.with(PENTAGON);
        int[] ends = {1, 2, 3, 2, 4};
        int[] begins = {4, 3, 2, 2, 1};
        for (int thing = 0; thing < 5; thing++) {
            due("16 ends " + thing, g.deep(0, thing, 0), ends[thing]);
            due("16 begins " + thing, g.deep(0, thing, 1), begins[thing]);
        }
        OrderGauge chain = Due.with(CHAIN_8);
        due("16 eight", chain.deep(0, 0, 0), 8);
        due("16 eight from below", chain.deep(0, 7, 1), 8);
        due("16 what 2", g.deep(0, 0, 2), -2);
        due("16 what below", g.deep(0, 0, -1), -2);
        due("16 thing 5", g.deep(0, 5, 0), -2);
        due("16 thing below", g.deep(0, -1, 0), -2);
    }

    // Promise 17
    private static void through() {
        OrderGauge g = Due.with(CUBE);
        due("17 none", g.through(0, 0), 48);
        due("17 all", g.through(0, 255), 48);
        due("17 bottom", g.through(0, 1), 48);
        due("17 bottom and one", g.through(0, 3), 16);
        due("17 no ideal", g.through(0, 2), 0);
        due("17 lower half", g.through(0, 15), 36);
        due("17 256", g.through(0, 256), -2);
        due("17 below", g.through(0, -1), -2);
        due("17 least", g.through(0, LOW), -2);
        due("17 beyond N", Due.with(N_SHAPE).through(0, 16), -2);
        due("17 just N", Due.with(N_SHAPE).through(0, 15), 5);
    }

    // Promise 18
    private static void before() {
        OrderGauge g = Due.with(N_SHAPE);
        due("18 free", g.before(0, 0, 1), 2);
        due("18 free turned", g.before(0, 1, 0), 3);
        due("18 below", g.before(0, 0, 2), 5);
        due("18 above", g.before(0, 2, 0), 0);
        due("18 one", g.before(0, 3, 3), 0);
        due("18 thing 4", g.before(0, 4, 0), -2);
        due("18 other 4", g.before(0, 0, 4), -2);
        due("18 thing below", g.before(0, -1, 0), -2);
        due("18 both none", g.before(0, 4, 4), -2);
        due("18 half of all", Due.with(FREE_8).before(0, 7, 0), 20160);
    }

    // Promise 19
    private static void at() {
        OrderGauge g = Due.with(N_SHAPE);
        int[] want = {2, 2, 1, 0};
        for (int i = 0; i < 4; i++) {
            due("19 at " + i, g.at(0, 0, i), want[i]);
        }
        due("19 free", Due.with(FREE_8).at(0, 3, 7), 5040);
        due("19 place 4", g.at(0, 0, 4), -2);
        due("19 place below", g.at(0, 0, -1), -2);
        due("19 thing 4", g.at(0, 4, 0), -2);
    }

    // Promise 20
    private static void mean() {
        OrderGauge g = Due.with(N_SHAPE);
        due("20 above", g.mean(0, 3, 0), 11);
        due("20 below", g.mean(0, 3, 1), 5);
        g = Due.with(FREE_8);
        due("20 in lowest terms", g.mean(0, 5, 0), 7);
        due("20 in lowest terms, below", g.mean(0, 5, 1), 2);
        g = Due.with(CUBE);
        due("20 whole", g.mean(0, 7, 0), 7);
        due("20 whole, below", g.mean(0, 7, 1), 1);
        due("20 nought", g.mean(0, 0, 0), 0);
        due("20 nought, below", g.mean(0, 0, 1), 1);
        due("20 one thing", Due.with("order 1;").mean(0, 0, 1), 1);
        due("20 what 2", g.mean(0, 0, 2), -2);
        due("20 what below", g.mean(0, 0, -1), -2);
        due("20 thing 8", g.mean(0, 8, 0), -2);
    }

    // Promise 21
    private static void balance() {
        OrderGauge g = Due.with(N_SHAPE);
        due("21 N", g.balance(0, 0), 1);
        due("21 N, many", g.balance(0, 1), 2);
        g = Due.with(THREE_ONE);
        due("21 three and one", g.balance(0, 0), 13);
        due("21 three and one, many", g.balance(0, 1), 2);
        g = Due.with("order 3:2<1;");
        due("21 a third", g.balance(0, 0), 1);
        due("21 a third, many", g.balance(0, 1), 2);
        g = Due.with(CHAIN_8);
        due("21 none free", g.balance(0, 0), -1);
        due("21 none free, many", g.balance(0, 1), -1);
        due("21 what 2", g.balance(0, 2), -2);
        due("21 what below", g.balance(0, -1), -2);
    }

    private static String jumper(OrderGauge g, int most, int things) {
        StringBuilder text = new StringBuilder();
        for (int i = 0; i < things; i++) {
            text.append(g.jumper(0, most, i));
        }
        return text.toString();
    }

    // Promises 22 to 24
    private static void jumps() {
        OrderGauge g = Due.with(N_SHAPE + "row 3210;row 1302;");
        due("22 fewest", g.jumps(0, 0), 1);
        due("22 most", g.jumps(0, 1), 3);
        dueText("23 fewest", jumper(g, 0, 4), "1302");
        dueText("23 most", jumper(g, 1, 4), "1032");
        due("24 no line", g.jumpsOf(0, 0), 3);
        due("24 line", g.jumpsOf(0, 1), 1);
        due("24 no such row", g.jumpsOf(0, 2), -2);
        due("24 row below", g.jumpsOf(0, -1), -2);
        due("22 most 2", g.jumps(0, 2), -2);
        due("22 most below", g.jumps(0, -1), -2);
        due("23 most 2", g.jumper(0, 2, 0), -2);
        due("23 place 4", g.jumper(0, 0, 4), -2);
        due("23 place below", g.jumper(0, 0, -1), -2);
        g = Due.with(TWO_TWO);
        due("22 two and two fewest", g.jumps(0, 0), 1);
        due("22 two and two most", g.jumps(0, 1), 3);
        dueText("23 two and two fewest", jumper(g, 0, 4), "0123");
        dueText("23 two and two most", jumper(g, 1, 4), "0213");
        g = Due.with(FREE_8);
        due("22 free", g.jumps(0, 0), 7);
        dueText("23 free", jumper(g, 0, 8), "01234567");
        due("22 chain", Due.with(CHAIN_8).jumps(0, 1), 0);
        due("22 one", Due.with("order 1;").jumps(0, 0), 0);
        due("23 one", Due.with("order 1;").jumper(0, 1, 0), 0);
    }

    // Promises 25 and 26
    private static void critical() {
        OrderGauge g = Due.with(N_SHAPE + "row 1302;row 0123;row 3210;");
        int[] want = {3, 3, 10, 32, -1};
        for (int k = -1; k < 4; k++) {
            due("25 critical " + k, g.critical(0, k), want[k + 1]);
        }
        due("25 k below NONE", g.critical(0, -2), -2);
        due("25 k greatest", g.critical(0, HIGH), -1);
        due("26 one", g.reversed(0, 0), 1);
        due("26 two", g.reversed(0, 1), 2);
        due("26 no line", g.reversed(0, 2), 1);
        due("26 no such row", g.reversed(0, 3), -2);
        due("26 row below", g.reversed(0, -1), -2);
        g = Due.with(FREE_8);
        due("25 free", g.critical(0, -1), 56);
        due("25 last", g.critical(0, 55), 76);
        due("25 behind the last", g.critical(0, 56), -1);
        due("25 chain", Due.with(CHAIN_8).critical(0, -1), 0);
        due("25 crown", Due.with(CROWN).critical(0, 2), 25);
    }

    // Promise 27
    private static void rowsAre() {
        OrderGauge g = Due.with(TWO_TWO);
        due("27 none: lines", g.rowsAre(0, 0), 1);
        due("27 none: no realizer", g.rowsAre(0, 1), 0);
        due("27 none: unlike", g.rowsAre(0, 2), 1);
        g = Due.with(TWO_TWO + "row 0123;row 2301;");
        due("27 realizer", g.rowsAre(0, 1), 1);
        g = Due.with(TWO_TWO + "row 0123;row 2031;");
        due("27 no realizer", g.rowsAre(0, 1), 0);
        g = Due.with(TWO_TWO + "row 0123;row 2301;row 0123;");
        due("27 like ones", g.rowsAre(0, 2), 0);
        due("27 realizer with like ones", g.rowsAre(0, 1), 1);
        g = Due.with(TWO_TWO + "row 0123;row 2301;row 3210;");
        due("27 one is no line", g.rowsAre(0, 0), 0);
        due("27 no realizer with it", g.rowsAre(0, 1), 0);
        g = Due.with("order 2:0<1;");
        due("27 chain without rows", g.rowsAre(0, 1), 0);
        g = Due.with("order 2:0<1;row 01;");
        due("27 chain with one", g.rowsAre(0, 1), 1);
        due("27 what 3", g.rowsAre(0, 3), -2);
        due("27 what below", g.rowsAre(0, -1), -2);
    }

    // Promise 28
    private static void ahead() {
        OrderGauge g = Due.with("order 3;row 012;row 102;");
        due("28 last", g.ahead(0, 2), 3);
        due("28 first", g.ahead(0, 0), 0);
        due("28 no rows", Due.with(N_SHAPE).ahead(0, 1), 13);
        due("28 one", Due.with("order 1;").ahead(0, 0), 0);
        due("28 rows that are no lines", Due.with("order 2:0<1;row 10;").ahead(0, 0), 2);
        due("28 thing 3", g.ahead(0, 3), -2);
        due("28 thing below", g.ahead(0, -1), -2);
    }

    private static String rows(OrderGauge g) {
        g.tell(0);
        String all = Due.out(g);
        return all.substring(all.indexOf(';') + 1);
    }

    // Promise 29
    private static void realizes() {
        OrderGauge g = Due.with(N_SHAPE + "row 3210;");
        due("29 none", g.realizes(0, 1, 2), -1);
        due("29 too long for none", g.realizes(0, 1, 1), -3);
        due("29 too long", g.realizes(0, 2, 4), -3);
        dueText("29 rows stay", rows(g), "row 3210;");
        due("III no act", g.count(1), 1);
        due("29 just so many", g.realizes(0, 2, 5), 5);
        dueText("29 rows", rows(g), "row 1302;row 0123;");
        due("III an act", g.count(1), 2);
        due("29 again", g.realizes(0, 2, 100000), 5);
        due("III the same rows: no act", g.count(1), 2);
        due("29 more places than needed", g.realizes(0, 4, 100), 5);
        dueText("29 empty places", rows(g), "row 1302;row 0123;row 0123;row 0123;");
        due("29 it is one", g.rowsAre(0, 1), 1);
        due("29 t 0", g.realizes(0, 0, 5), -2);
        due("29 t 5", g.realizes(0, 5, 5), -2);
        due("29 tries 0", g.realizes(0, 2, 0), -2);
        due("29 tries above", g.realizes(0, 2, 100001), -2);
        due("29 tries least", g.realizes(0, 2, LOW), -2);
        g = Due.with(CHAIN_8);
        due("29 chain", g.realizes(0, 1, 1), 0);
        dueText("29 chain's line", rows(g), "row 76543210;");
        g = Due.with(FOUR_FOUR);
        due("29 three are not enough", g.realizes(0, 3, 9), -1);
        due("29 and eight tries do not tell", g.realizes(0, 3, 8), -3);
        due("29 four are", g.realizes(0, 4, 100000), 10);
        due("29 all turned", g.rowsAre(0, 1), 1);
        g = Due.with(FREE_8);
        due("29 free", g.realizes(0, 2, 100000), 84);
        dueText("29 free rows", rows(g), "row 76543210;row 01234567;");
    }

    // Promise 30
    private static void dimension() {
        due("30 chain", Due.with(CHAIN_8).dimension(0, 1), 1);
        due("30 N", Due.with(N_SHAPE).dimension(0, 5), 2);
        due("30 crown", Due.with(CROWN).dimension(0, 6), 3);
        due("30 crown, too long", Due.with(CROWN).dimension(0, 5), -3);
        due("30 cube", Due.with(CUBE).dimension(0, 100000), 3);
        due("30 four", Due.with(FOUR_FOUR).dimension(0, 100000), 4);
        OrderGauge g = Due.with(N_SHAPE + "row 0123;");
        due("30 too long for the first", g.dimension(0, 1), -3);
        due("30 tries 0", g.dimension(0, 0), -2);
        due("30 tries above", g.dimension(0, 100001), -2);
        due("30 most tries", g.dimension(0, 100000), 2);
        due("30 rows stay", g.look(0, 8), 1);
        due("30 no act", g.count(1), 1);
    }

    // Promise 31
    private static void row() {
        OrderGauge g = Due.with("order 3;row 201;row 120;");
        int[] want = {2, 0, 1, 1, 2, 0};
        for (int i = 0; i < 6; i++) {
            due("31 row", g.row(0, i / 3, i % 3), want[i]);
        }
        due("31 place 3", g.row(0, 0, 3), -2);
        due("31 place below", g.row(0, 0, -1), -2);
        due("31 row 2", g.row(0, 2, 0), -2);
        due("31 row below", g.row(0, -1, 0), -2);
    }

    // Promise 32
    private static void adds() {
        OrderGauge g = Due.with(N_SHAPE);
        for (int k = 0; k < 5; k++) {
            due("32 adds " + k, g.adds(0, k), k + 1);
        }
        due("32 like ones", g.adds(0, 0), 6);
        dueText("32 rows", rows(g), "row 0123;row 0132;row 1023;row 1032;row 1302;row 0123;");
        due("32 six", g.adds(0, 0), -5);
        due("32 NONE first", g.adds(0, 5), -1);
        due("32 k below first", g.adds(0, -1), -2);
        due("32 acts", g.count(1), 7);
        due("32 undone", g.undo(), 6);
        due("32 goes on", g.adds(0, 1), 6);
    }

    // Promise 33
    private static void takes() {
        OrderGauge g = Due.with("order 2;row 01;row 10;row 10;");
        due("33 takes", g.takes(0, 0), 2);
        dueText("33 those behind", rows(g), "row 10;row 10;");
        due("33 no such row", g.takes(0, 2), -2);
        due("33 row below", g.takes(0, -1), -2);
        due("33 last", g.takes(0, 1), 1);
        due("33 only", g.takes(0, 0), 0);
        due("33 none", g.takes(0, 0), -2);
        due("33 acts", g.count(1), 4);
        g.undo();
        g.undo();
        g.undo();
        dueText("33 undone", rows(g), "row 01;row 10;row 10;");
    }

    // Promise 34
    private static void puts() {
        OrderGauge g = Due.with("order 4:0<1,2<3;row 2301;");
        due("34 what follows", g.puts(0, 1, 2), 4);
        due("34 a chain", g.is(0, 0), 1);
        dueText("34 rows stay", rows(g), "row 2301;");
        due("34 it is so", g.puts(0, 0, 3), 0);
        due("34 they are one", g.puts(0, 2, 2), -6);
        due("34 the other is below", g.puts(0, 3, 0), -6);
        due("34 acts", g.count(1), 2);
        due("34 thing 4", g.puts(0, 4, 0), -2);
        due("34 other 4", g.puts(0, 0, 4), -2);
        due("34 one that is none", g.puts(0, 4, 4), -2);
        due("34 thing below", g.puts(0, -1, 0), -2);
        due("34 undone", g.undo(), 1);
        due("34 as it was", g.look(0, 1), 2);
    }

    // Promise 35
    private static void cuts() {
        OrderGauge g = Due.with("order 3:0<1<2;row 012;");
        due("35 no cover", g.cuts(0, 0, 2), -6);
        due("35 turned", g.cuts(0, 1, 0), -6);
        due("35 one", g.cuts(0, 1, 1), -6);
        due("35 cuts", g.cuts(0, 0, 1), 2);
        due("35 free then", g.of(0, 0, 2), 2);
        due("35 what followed stays", g.of(0, 0, 1), 4);
        due("35 a cover now", g.cuts(0, 0, 2), 1);
        due("35 rows stay", g.look(0, 8), 1);
        due("35 acts", g.count(1), 3);
        due("35 thing 3", g.cuts(0, 3, 0), -2);
        due("35 other 3", g.cuts(0, 0, 3), -2);
        due("35 thing below", g.cuts(0, -1, 0), -2);
    }

    // Promise 36
    private static void flip() {
        OrderGauge g = Due.with(PENTAGON + "row 01234;row 30124;");
        due("36 height", g.flip(0), 4);
        g.tell(0);
        dueText("36 flipped", Due.out(g), "order 5:1<0,2<1,3<0,4<2,4<3;row 43210;row 42103;");
        due("36 acts", g.count(1), 2);
        due("36 back", g.flip(0), 4);
        due("36 back is one, too", g.count(1), 3);
        g = Due.with("order 3;");
        due("36 free", g.flip(0), 1);
        due("III nothing became otherwise", g.count(1), 1);
        g = Due.with("order 1;row 0;");
        due("36 one", g.flip(0), 1);
        due("III one with a row", g.count(1), 1);
        g = Due.with("order 2;row 01;");
        due("36 rows alone", g.flip(0), 1);
        due("III rows became otherwise", g.count(1), 2);
    }

    // Promise 37
    private static void without() {
        OrderGauge g = Due.with("order 5:0<1<2<4,0<3<4;row 01324;row 43210;");
        due("37 without", g.without(0, 1), 4);
        g.tell(0);
        dueText("37 told", Due.out(g), "order 4:0<1,0<2,1<3,2<3;row 0213;row 3210;");
        due("37 last", g.without(0, 3), 3);
        due("37 thing 3", g.without(0, 3), -2);
        due("37 thing below", g.without(0, -1), -2);
        due("37 first", g.without(0, 0), 2);
        due("37 again", g.without(0, 0), 1);
        due("37 the only one", g.without(0, 0), -6);
        due("37 -2 ahead of -6", g.without(0, 1), -2);
        dueText("37 rows", rows(g), "row 0;row 0;");
        due("37 acts", g.count(1), 5);
        g = Due.with(CHAIN_8);
        due("37 of eight", g.without(0, 7), 7);
        due("37 chain stays one", g.is(0, 0), 1);
    }

    // Promise 38
    private static void joins() {
        OrderGauge g = Due.with("order 3:0<1<2;row 012;");
        Due.tell(g, 1, "order 2;");
        due("38 beside", g.joins(0, 1, 0, 2), 5);
        g.tell(2);
        dueText("38 beside told", Due.out(g), "order 5:0<1,1<2;");
        due("38 above", g.joins(0, 1, 1, 2), 5);
        g.tell(2);
        dueText("38 above told", Due.out(g), "order 5:0<1,1<2,2<3,2<4;");
        due("38 acts", g.count(1), 4);
        due("38 the same", g.joins(0, 1, 1, 2), 5);
        due("III joined as it was: no act", g.count(1), 4);
        due("38 into itself", g.joins(0, 0, 1, 0), 6);
        due("38 chain", g.is(0, 0), 1);
        due("38 no rows", g.look(0, 8), 0);
        due("38 eight", g.joins(1, 0, 0, 1), 8);
        due("38 nine", g.joins(1, 0, 0, 1), -5);
        due("38 above 2", g.joins(1, 1, 2, 1), -2);
        due("38 above below", g.joins(1, 1, -1, 1), -2);
        due("38 to 3", g.joins(1, 1, 0, 3), -2);
        due("38 to below", g.joins(1, 1, 0, -1), -2);
        g.drops(2);
        due("38 none", g.joins(0, 2, 0, 1), -2);
        due("38 none, the one", g.joins(2, 0, 0, 1), -2);
        due("38 other 3", g.joins(0, 3, 0, 1), -2);
    }

    // Promise 39
    private static void alike() {
        OrderGauge g = Due.with(N_SHAPE);
        Due.tell(g, 1, "order 4:3<0,2<0,2<1;row 0123;");
        due("39 named anew", g.alike(0, 1), 1);
        due("39 itself", g.alike(0, 0), 1);
        Due.tell(g, 1, TWO_TWO);
        due("39 other", g.alike(0, 1), 0);
        Due.tell(g, 1, "order 5:0<2,1<2,1<3;");
        due("39 more things", g.alike(0, 1), 0);
        due("39 fewer things", g.alike(1, 0), 0);
        Due.tell(g, 0, "order 6:0<3,0<4,1<4,1<5,2<5,2<3;");
        Due.tell(g, 1, CROWN);
        due("39 crown", g.alike(0, 1), 1);
        Due.tell(g, 0, "order 3:0<1,0<2;");
        Due.tell(g, 1, "order 3:0<1,2<1;");
        due("39 turned over", g.alike(0, 1), 0);
        // As many below and above each, yet not alike: one part of eight, and two parts of four.
        Due.tell(g, 0, "order 8:0<4,0<5,1<5,1<6,2<6,2<7,3<7,3<4;");
        Due.tell(g, 1, "order 8:0<4,0<5,1<4,1<5,2<6,2<7,3<6,3<7;");
        due("39 same degrees", g.alike(0, 1), 0);
        due("39 slot without", g.alike(0, 2), -2);
        due("39 slot without, the one", g.alike(2, 0), -2);
        due("39 slot 3", g.alike(0, 3), -2);
    }

    // Promise 40
    private static void selves() {
        due("40 N", Due.with(N_SHAPE).selves(0), 1);
        due("40 two and two", Due.with(TWO_TWO).selves(0), 2);
        due("40 free", Due.with(FREE_8).selves(0), 40320);
        due("40 chain", Due.with(CHAIN_8).selves(0), 1);
        due("40 cube", Due.with(CUBE).selves(0), 6);
        due("40 four and four", Due.with(FOUR_FOUR).selves(0), 24);
        due("40 bipartite", Due.with(BIPARTITE).selves(0), 576);
        due("40 ring", Due.with("order 8:0<4,0<5,1<5,1<6,2<6,2<7,3<7,3<4;").selves(0), 8);
    }

    // Promise 41
    private static void drops() {
        OrderGauge g = Due.with("order 2;row 01;");
        due("41 drops", g.drops(0), 1);
        due("41 nothing", g.look(0, 0), -2);
        due("41 again", g.drops(0), 0);
        due("41 acts", g.count(1), 2);
        due("41 slot 3", g.drops(3), -2);
        due("41 slot below", g.drops(-1), -2);
        due("41 undone", g.undo(), 1);
        due("41 back with rows", g.look(0, 8), 1);
        g.drops(0);
        Due.tell(g, 0, "order 2;");
        due("41 rows do not come back", g.look(0, 8), 0);
    }

    // Promise 42
    private static void undo() {
        OrderGauge g = new OrderGauge();
        for (int n = 1; n <= 8; n++) {
            Due.tell(g, n % 3, "order " + n + ";");
            due("42 acts", g.count(1), n);
        }
        for (int i = 0; i < 4; i++) {
            g.adds(0, i);
        }
        due("42 ten at most", g.count(1), 10);
        for (int left = 9; left >= 0; left--) {
            due("42 undo", g.undo(), left);
        }
        due("42 none left", g.undo(), -1);
        due("42 slot 0", g.look(0, 0), -2);
        due("42 slot 1", g.look(1, 0), 1);
        due("42 slot 2", g.look(2, 0), 2);
        due("42 still none", g.undo(), -1);
        due("42 goes on", g.flip(1), 1);
        due("42 told again", Due.tell(g, 1, "order 3;"), 0);
        due("42 count", g.count(1), 1);
        g.tell(1);
        Due.feed(g, "order");
        due("42 undone", g.undo(), 0);
        due("42 tape stays", g.count(2), 5);
        due("42 out stays", g.count(3), 8);
        due("42 fault stays", g.fault(0), 0);
    }

    // Promises 43 and 44
    private static void tell() {
        OrderGauge g = Due.with(" order 4 : 3 < 2 < 1, 3<1, 0<1;\nrow 3201 ; row 0123;");
        due("43 bytes", g.tell(0), 38);
        dueText("43 text", Due.out(g), "order 4:0<1,2<1,3<2;row 3201;row 0123;");
        due("44 behind", g.octet(38), -1);
        due("44 last", g.octet(37), ';');
        due("44 below", g.octet(-1), -1);
        due("44 least", g.octet(LOW), -1);
        due("44 greatest", g.octet(HIGH), -1);
        due("43 refused", g.tell(1), -2);
        due("43 slot 3", g.tell(3), -2);
        g.drops(0);
        due("44 whatever came since", g.octet(6), '4');
        Due.tell(g, 0, "order 1;");
        due("43 short", g.tell(0), 8);
        dueText("43 without covers", Due.out(g), "order 1;");
        due("44 the old one is gone", g.octet(8), -1);
        String longest = BIPARTITE + "row 01234567;row 76543210;row 01234567;row 01234567;row 01234567;row 01234567;";
        Due.tell(g, 0, longest);
        due("43 longest", g.tell(0), 150);
        dueText("43 longest text", Due.out(g), longest);
        due("43 no act", g.count(1), 4);
    }

    // The line behind the terms: -2 for slots that are none or have nothing
    private static void slotsThatAreNone() {
        OrderGauge g = Due.with("order 2;row 01;");
        for (String name : Calls.NAMES) {
            boolean bySlot = !name.matches("feed|end|told|fault|count|drops|undo|octet");
            for (int slot : new int[] {-1, 1, 2, 3, LOW, HIGH}) {
                int[] v = {slot, name.matches("alike|joins") ? 0 : 1, 1, 1, 0};
                if (bySlot) {
                    due(name + " of slot " + slot, Calls.toGauge(g, name, v), -2);
                }
            }
        }
        due("nothing happened", g.count(1), 1);
        due("nothing was told", g.count(3), 0);
    }
}
