/** Boundary cases of promises 1 to 6, 43 and 44, and of the texts and faults of term I: a method for each sentence. */
public final class TextBoundariesTest {
    private static final Due DUE = new Due();
    private static final int LOW = Integer.MIN_VALUE;
    private static final int HIGH = Integer.MAX_VALUE;
    private static final int BLANKS = 0x20202020;

    private static final String SIX_ROWS = "row 0;row 0;row 0;row 0;row 0;row 0;";
    private static final String MOST_COVERS =
            "order 8:0<4,0<5,0<6,0<7,1<4,1<5,1<6,1<7,2<4,2<5,2<6,2<7,3<4,3<5,3<6,3<7;";

    public static void main(String[] args) {
        newObjectHasNothing();
        feedTakesTwentyBytesHighestFirst();
        feedTakesEveryByte();
        feedFillsFourHundred();
        feedAddsNothingBeyond();
        endKeepsTheFirst();
        endRefusesWhatTheTapeHasNot();
        toldEmptiesTheTape();
        toldWithAFaultKeepsAllElse();
        toldOfNoSlotKeepsTheTape();
        toldCountsTwos();
        toldReadsAFullTape();
        faultAheadOfAny();
        faultIsOfTheLatest();
        faultOfAnotherWhat();
        countSlotsAsBits();
        countOfAnotherWhat();
        thingsOneToEight();
        thingsOfAnOrder();
        itselfOrBelow();
        twosAreOptional();
        climbsOfTwoOrMore();
        rowsUpToSix();
        digitsOfARow();
        blanksAre32And10();
        wordsAreAToZ();
        digitsAre0To9();
        tokensAreTheLongest();
        everyCutOfAText();
        firstOfSeveralFaults();
        leastNumberOfOneByte();
        seventhRowAtTheWord();
        tellShortestAndLongest();
        tellRefused();
        octetOfOut();
        DUE.close("TextBoundariesTest");
    }

    private static void due(String what, int got, int want) {
        DUE.due(what, got, want);
    }

    private static void isText(String text, String want) {
        OrderGauge g = new OrderGauge();
        DUE.holds("told: " + text, Due.tell(g, 0, text) >= 0);
        due("no fault: " + text, g.fault(0), 0);
        due("no place: " + text, g.fault(1), -1);
        g.tell(0);
        DUE.holds(text + " told as " + Due.out(g) + ", due is " + want, Due.out(g).equals(want));
    }

    private static void isFault(String text, int kind, int place) {
        OrderGauge g = new OrderGauge();
        due("told(0) of " + text, Due.tell(g, 0, text), -4);
        due("fault(0) of " + text, g.fault(0), kind);
        due("fault(1) of " + text, g.fault(1), place);
        due("no order: " + text, g.count(0), 0);
        due("no act: " + text, g.count(1), 0);
    }

    // 1: "SLOTS have nothing."
    private static void newObjectHasNothing() {
        OrderGauge g = new OrderGauge();
        for (int what = 0; what < 4; what++) {
            due("1 count", g.count(what), 0);
        }
        for (int slot = 0; slot < 3; slot++) {
            due("1 look", g.look(slot, 0), -2);
            due("1 tell", g.tell(slot), -2);
            due("1 drops", g.drops(slot), 0);
        }
        due("1 undo", g.undo(), -1);
        due("1 octet", g.octet(0), -1);
        due("1 end", g.end(1), -1);
        due("NONE", OrderGauge.NONE, -1);
    }

    // 2: "Twenty bytes come behind the TAPE, four of each number, the highest first"
    private static void feedTakesTwentyBytesHighestFirst() {
        for (int place = 0; place < 40; place++) {
            int[] v = {BLANKS, BLANKS, BLANKS, BLANKS, BLANKS, BLANKS, BLANKS, BLANKS, BLANKS, BLANKS};
            int shift = 24 - 8 * (place % 4);
            v[place / 4] = BLANKS & ~(255 << shift) | '@' << shift;
            OrderGauge g = new OrderGauge();
            due("2 twenty", g.feed(v[0], v[1], v[2], v[3], v[4]), 20);
            due("2 forty", g.feed(v[5], v[6], v[7], v[8], v[9]), 40);
            due("2 told", g.told(0), -4);
            due("2 place of byte " + place, g.fault(1), place);
        }
    }

    private static void feedTakesEveryByte() {
        for (int octet = 0; octet < 256; octet++) {
            OrderGauge g = new OrderGauge();
            g.feed(octet << 24 | 0x202020, BLANKS, BLANKS, BLANKS, BLANKS);
            due("2 byte " + octet + " alone", g.told(0), -4);
            due("2 place of byte " + octet, g.fault(1), octet == 32 || octet == 10 ? 20 : 0);
            // The byte behind a whole text: nothing but blanks can stand there.
            g.feed(0x6f726465, 0x7220313b, octet << 24 | 0x202020, BLANKS, BLANKS);
            due("2 byte " + octet + " behind a text", g.told(0), octet == 32 || octet == 10 ? 0 : -4);
            due("2 its place", g.fault(1), octet == 32 || octet == 10 ? -1 : 8);
        }
    }

    // 2: "how many it has; NONE, and none come, if it would have more than 400."
    private static void feedFillsFourHundred() {
        OrderGauge g = new OrderGauge();
        for (int had = 0; had < 400; had += 20) {
            due("2 feed", g.feed(1, 2, 3, 4, 5), had + 20);
        }
        due("2 full", g.feed(1, 2, 3, 4, 5), -1);
        due("2 still full", g.feed(1, 2, 3, 4, 5), -1);
        due("2 just 400", g.count(2), 400);
        due("3 to 381", g.end(381), 381);
        due("2 would have 401", g.feed(1, 2, 3, 4, 5), -1);
        due("2 none came", g.count(2), 381);
        due("3 to 380", g.end(380), 380);
        due("2 would have 400", g.feed(1, 2, 3, 4, 5), 400);
    }

    private static void feedAddsNothingBeyond() {
        // A fault at byte 381 is at 381 still behind a feed that was refused.
        OrderGauge g = new OrderGauge();
        for (int had = 0; had < 400; had += 20) {
            g.feed(BLANKS, BLANKS, BLANKS, BLANKS, BLANKS);
        }
        g.end(381);
        due("2 refused", g.feed('@' << 24, 0, 0, 0, 0), -1);
        due("4 told", g.told(0), -4);
        due("5 the end's place", g.fault(1), 381);
        due("2 the tape is empty then", g.feed(1, 2, 3, 4, 5), 20);
    }

    // 3: "The TAPE has its first n bytes alone: n"
    private static void endKeepsTheFirst() {
        OrderGauge g = new OrderGauge();
        Due.feed(g, "order 1;order 2;");
        due("3 all", g.end(16), 16);
        due("3 first", g.end(8), 8);
        due("3 told", g.told(0), 0);
        due("3 N", g.look(0, 0), 1);
        due("3 none of none", g.end(0), 0);
        Due.feed(g, "order 2;");
        due("3 none", g.end(0), 0);
        due("3 empty", g.count(2), 0);
        due("3 feed behind it", g.feed(0x6f726465, 0x7220333b, BLANKS, BLANKS, BLANKS), 20);
        due("3 told behind it", g.told(0), 0);
        due("3 N behind it", g.look(0, 0), 3);
    }

    // 3: "NONE, and nothing happens, if it has not so many, or n is below 0."
    private static void endRefusesWhatTheTapeHasNot() {
        OrderGauge g = new OrderGauge();
        due("3 one of none", g.end(1), -1);
        g.feed(0x6f726465, 0x7220313b, BLANKS, BLANKS, BLANKS);
        for (int n : new int[] {21, -1, LOW, HIGH, LOW + 20, 400, 256 + 8}) {
            due("3 end " + n, g.end(n), -1);
            due("3 nothing happens", g.count(2), 20);
        }
        due("3 just so many", g.end(20), 20);
        g.end(8);
        due("3 what went is not there", g.end(9), -1);
        due("3 the text is whole", g.told(0), 0);
    }

    // 4: "The TAPE (empty then) tells the ORDER and ROWS of a SLOT"
    private static void toldEmptiesTheTape() {
        OrderGauge g = new OrderGauge();
        Due.feed(g, "order 2;row 10;");
        due("4 told", g.told(2), 0);
        due("4 empty then", g.count(2), 0);
        due("4 so it can't be told again", g.told(2), -4);
        due("4 rows", g.look(2, 8), 1);
        due("4 without rows now", Due.tell(g, 2, "order 2;"), 0);
        due("4 no rows", g.look(2, 8), 0);
    }

    // 4: "-4: a FAULT (the TAPE is empty, all else stays)"
    private static void toldWithAFaultKeepsAllElse() {
        OrderGauge g = Due.with("order 2:0<1;row 10;");
        g.tell(0);
        // The fault is the last token: all ahead of it was read.
        due("4 a fault", Due.tell(g, 0, "order 3:2<1;row 012;row 011;"), -4);
        due("4 the tape is empty", g.count(2), 0);
        due("4 N stays", g.look(0, 0), 2);
        due("4 twos stay", g.of(0, 1, 0), 1);
        due("4 rows stay", g.row(0, 0, 0), 1);
        due("4 one row", g.look(0, 8), 1);
        due("4 slots stay", g.count(0), 1);
        due("4 acts stay", g.count(1), 1);
        due("4 out stays", g.count(3), 19);
        due("4 fault in a slot that has nothing", Due.tell(g, 1, "order 3"), -4);
        due("4 it has nothing", g.look(1, 0), -2);
    }

    // 4: "-2: no such SLOT (the TAPE stays)."
    private static void toldOfNoSlotKeepsTheTape() {
        for (String text : new String[] {"order 2:0<1;", "order 9;", ""}) {
            OrderGauge g = new OrderGauge();
            Due.feed(g, text);
            for (int slot : new int[] {-1, 3, LOW, HIGH}) {
                due("4 slot " + slot, g.told(slot), -2);
                due("4 the tape stays", g.count(2), text.length());
                due("5 no fault of it", g.fault(0), 0);
                due("5 no place of it", g.fault(1), -1);
            }
            due("4 slot 2", g.told(2), text.equals("order 2:0<1;") ? 1 : -4);
        }
    }

    // 4: "how many twos are BELOW one another."
    private static void toldCountsTwos() {
        OrderGauge g = new OrderGauge();
        due("4 none", Due.tell(g, 0, "order 8;"), 0);
        due("4 one", Due.tell(g, 0, "order 8:7<0;"), 1);
        due("4 said twice", Due.tell(g, 0, "order 8:7<0,7<0;"), 1);
        due("4 what follows", Due.tell(g, 0, "order 8:7<0,0<3;"), 3);
        due("4 what follows from what came first", Due.tell(g, 0, "order 8:0<3,7<0;"), 3);
        due("4 follows from both sides", Due.tell(g, 0, "order 8:0<1,2<3,1<2;"), 6);
        due("4 all", Due.tell(g, 0, "order 8:0<1<2<3<4<5<6<7;"), 28);
    }

    // 2, 4: a tape of 400 bytes can be told.
    private static void toldReadsAFullTape() {
        StringBuilder text = new StringBuilder("order 8:6<7");
        while (text.length() < 399) {
            text.append(",6<7");
        }
        text.append(';');
        OrderGauge g = new OrderGauge();
        due("4 length", text.length(), 400);
        due("4 full", Due.tell(g, 0, text.toString()), 1);
        text.setCharAt(399, '<');
        due("4 full, cut off", Due.tell(g, 0, text.toString()), -4);
        due("5 its end", g.fault(1), 400);
        text.setCharAt(399, '@');
        due("4 full, a fault at the last byte", Due.tell(g, 0, text.toString()), -4);
        due("5 its last byte", g.fault(1), 399);
        due("4 a number of many digits", Due.tell(g, 0, "order " + "0".repeat(392) + "8;"), 0);
        due("4 its value", g.look(0, 0), 8);
        due("4 a row of many digits", Due.tell(g, 0, "order 1;row " + "0".repeat(387) + ";"), -4);
        due("5 its fault", g.fault(0), 4);
        due("4 a word of many letters", Due.tell(g, 0, "o".repeat(400)), -4);
        due("5 its place", g.fault(1), 0);
        due("4 blanks alone", Due.tell(g, 0, " ".repeat(400)), -4);
        due("5 the end's place", g.fault(1), 400);
    }

    // 5: "0 without ... NONE ... ahead of any (what 1)."
    private static void faultAheadOfAny() {
        OrderGauge g = new OrderGauge();
        due("5 what 0", g.fault(0), 0);
        due("5 what 1", g.fault(1), -1);
        g.told(3);
        g.told(-1);
        due("5 what 0 behind -2", g.fault(0), 0);
        due("5 what 1 behind -2", g.fault(1), -1);
    }

    // 5: "Of the latest told() that was not -2"
    private static void faultIsOfTheLatest() {
        OrderGauge g = new OrderGauge();
        Due.tell(g, 0, "order 2:0<2;");
        due("5 fault", g.fault(0), 2);
        due("5 place", g.fault(1), 10);
        Due.feed(g, "order 1;row 1;");
        due("4 -2", g.told(3), -2);
        due("5 fault stays", g.fault(0), 2);
        due("5 place stays", g.fault(1), 10);
        due("4 -4", g.told(0), -4);
        due("5 fault of the latest", g.fault(0), 4);
        due("5 place of the latest", g.fault(1), 12);
        g.undo();
        g.drops(0);
        g.tell(0);
        due("5 whatever came since", g.fault(0), 4);
        Due.tell(g, 0, "order 1;");
        due("5 none without", g.fault(0), 0);
        due("5 no place without", g.fault(1), -1);
    }

    // 5: "NONE for another what"
    private static void faultOfAnotherWhat() {
        OrderGauge g = new OrderGauge();
        for (String text : new String[] {"order 1;", "order 9;"}) {
            Due.tell(g, 0, text);
            for (int what : new int[] {-1, 2, 3, LOW, HIGH, LOW + 1, 32, 256}) {
                due("5 what " + what, g.fault(what), -1);
            }
        }
    }

    // 6: "SLOTS with an ORDER, as bits"
    private static void countSlotsAsBits() {
        for (int set = 0; set < 8; set++) {
            OrderGauge g = new OrderGauge();
            for (int slot = 0; slot < 3; slot++) {
                if ((set >> slot & 1) == 1) {
                    Due.tell(g, slot, "order 1;");
                }
            }
            due("6 slots", g.count(0), set);
            due("6 acts", g.count(1), Integer.bitCount(set));
            for (int slot = 0; slot < 3; slot++) {
                g.drops(slot);
            }
            due("6 dropped", g.count(0), 0);
            due("6 acts with drops", g.count(1), 2 * Integer.bitCount(set));
        }
    }

    // 6: "NONE for others."
    private static void countOfAnotherWhat() {
        OrderGauge g = Due.with("order 1;");
        for (int what : new int[] {-1, 4, 5, LOW, HIGH, LOW + 1, 32, 256}) {
            due("6 what " + what, g.count(what), -1);
        }
        g.tell(0);
        due("6 what 3", g.count(3), 8);
    }

    // I: "N 1 .. 8"; fault 2: "a number out of its bounds (N; ..)"
    private static void thingsOneToEight() {
        for (int n = 1; n <= 8; n++) {
            isText("order " + n + ";", "order " + n + ";");
        }
        isText("order 08;", "order 8;");
        for (String n : new String[] {"0", "9", "00", "10", "09", "18", "81", "100", "1000", "8000", "9999999999"}) {
            isFault("order " + n + ";", 2, 6);
        }
        // 2 to the 8, 16, 32, 64, and one more: they come round to 1.
        for (String n : new String[] {"257", "65537", "4294967297", "18446744073709551617"}) {
            isFault("order " + n + ";", 2, 6);
        }
    }

    // I: "THINGS 0 .. N less 1"; fault 2: "(..; a THING)"
    private static void thingsOfAnOrder() {
        for (int n = 2; n <= 8; n++) {
            String head = "order " + n + ":";
            isText(head + "0<" + (n - 1) + ";", head + "0<" + (n - 1) + ";");
            isText(head + (n - 1) + "<0;", head + (n - 1) + "<0;");
            isFault(head + "0<" + n + ";", 2, 10);
            isFault(head + n + "<0;", 2, 8);
            isFault(head + "0<1," + n + "<0;", 2, 12);
            isFault(head + "0<1<" + n + ";", 2, 12);
        }
        isFault("order 1:1<0;", 2, 8);
        isFault("order 2:0<256;", 2, 10);
        isFault("order 2:0<4294967297;", 2, 10);
        isFault("order 2:0<18446744073709551617;", 2, 10);
        isText("order 2:00<01;", "order 2:0<1;");
    }

    // I: "none itself"; fault 3: "the one ahead of <, or BELOW it by what was told so far"
    private static void itselfOrBelow() {
        isFault("order 1:0<0;", 3, 10);
        isFault("order 8:7<7;", 3, 10);
        isFault("order 2:0<1<1;", 3, 12);
        isFault("order 2:0<1<0;", 3, 12);
        isFault("order 2:0<1,1<0;", 3, 14);
        isFault("order 3:0<1,1<2,2<0;", 3, 18);
        isFault("order 3:1<2,0<1,2<0;", 3, 18);
        isFault("order 8:0<1<2<3<4<5<6<7<0;", 3, 24);
        isFault("order 8:0<1<2<3<4<5<6<7,7<0;", 3, 26);
        isFault("order 4:0<1,2<3,1<2,3<0;", 3, 22);
        // Above it by what was told so far, and free of it: no fault.
        isText("order 3:0<1<2,0<2;", "order 3:0<1,1<2;");
        isText("order 3:0<2,0<1,1<2;", "order 3:0<1,1<2;");
        isText("order 2:1<0,1<0;", "order 2:1<0;");
        isText("order 3:0<1,2<1,0<2;", "order 3:0<2,2<1;");
    }

    // I: "order N [: A < B {< C} {, A < B {< C}}] ;"
    private static void twosAreOptional() {
        isText("order 2;", "order 2;");
        isText("order 2:0<1;", "order 2:0<1;");
        isFault("order 2:;", 1, 8);
        isFault("order 2::0<1;", 1, 8);
        isFault("order 2,0<1;", 1, 7);
        isFault("order 2 0<1;", 1, 8);
        isFault("order 2:0<1:;", 1, 11);
        isFault("order 2:0<1;:", 1, 12);
        isFault("order 2:0<1;0<1;", 1, 12);
        isFault("order 2;;", 1, 8);
        isFault("order 2:0<1;;", 1, 12);
    }

    private static void climbsOfTwoOrMore() {
        isFault("order 3:0;", 1, 9);
        isFault("order 3:0,1<2;", 1, 9);
        isFault("order 3:0<;", 1, 10);
        isFault("order 3:<1;", 1, 8);
        isFault("order 3:0<<1;", 1, 10);
        isFault("order 3:0<1<;", 1, 12);
        isFault("order 3:0<1,;", 1, 12);
        isFault("order 3:0<1,,1<2;", 1, 12);
        isFault("order 3:0<1,1;", 1, 13);
        isFault("order 3:0<1,1<;", 1, 14);
        isFault("order 3:0<a;", 1, 10);
        isFault("order 3:0<row;", 1, 10);
        isFault("order 3:0=1;", 1, 9);
        isFault("order 3:0>1;", 1, 9);
        isFault("order 3:0;1", 1, 9);
        isText("order 3:0<1<2;", "order 3:0<1,1<2;");
        isText("order 8:7<6<5<4<3<2<1<0;", "order 8:1<0,2<1,3<2,4<3,5<4,6<5,7<6;");
        isText("order 4:0<1<2,3<1<2;", "order 4:0<1,1<2,3<1;");
    }

    // I: "{row DIGITS ;}", "6 ROWS at most"
    private static void rowsUpToSix() {
        StringBuilder text = new StringBuilder("order 2;");
        for (int rows = 0; rows <= 6; rows++) {
            isText(text.toString(), text.toString());
            text.append(rows % 2 == 0 ? "row 10;" : "row 01;");
        }
        isFault(text.toString(), 5, 50);
        isFault("order 2;row 01", 1, 14);
        isFault("order 2;row 01 row 10;", 1, 15);
        isFault("order 2;row 01,10;", 1, 14);
        isFault("order 2;01;", 1, 8);
        isFault("row 0;", 1, 0);
        isFault("order 2;order 2;", 1, 8);
        isFault("order 2;row row 01;", 1, 12);
        isFault("order 2;row;", 1, 11);
        isFault("order 2 row 01;", 1, 8);
    }

    // I: "N digits, one TOKEN: all THINGS, each once .. they need not be LINES"; fault 4
    private static void digitsOfARow() {
        String all = "01234567";
        for (int n = 1; n <= 8; n++) {
            String head = "order " + n + ";row ";
            String row = all.substring(0, n);
            isText(head + row + ";", head + row + ";");
            isFault(head + row + "0;", 4, 12);
            isFault(head + "0" + row + ";", 4, 12);
            isFault(head + row.substring(0, n - 1) + n + ";", 4, 12);
            isFault(head + row.substring(0, n - 1) + "9;", 4, 12);
            if (n > 1) {
                isFault(head + row.substring(1) + ";", 4, 12);
                isFault(head + row.substring(0, n - 1) + ";", 4, 12);
                isFault(head + row.substring(0, n - 1) + "0;", 4, 12);
                isFault(head + row.substring(0, 1) + " " + row.substring(1) + ";", 4, 12);
            }
        }
        isText("order 3:0<1<2;row 210;", "order 3:0<1,1<2;row 210;");
        isText("order 2;row 01;row 01;", "order 2;row 01;row 01;");
        isFault("order 2;row 01;row 00;", 4, 19);
        isFault("order 2;row ab;", 1, 12);
        isFault("order 2;row -1;", 1, 12);
    }

    // I: "blanks (32, 10) aside"
    private static void blanksAre32And10() {
        isText("\n \norder\n\n3 :\n0 < 1 , 1\n<\n2 ;\n row 012 ;\n\n", "order 3:0<1,1<2;row 012;");
        isText("order3:0<1<2;row012;", "order 3:0<1,1<2;row 012;");
        for (int octet : new int[] {0, 9, 11, 12, 13, 31, 33, 160, 255}) {
            isFault("order" + (char) octet + "3;", 1, 5);
            isFault((char) octet + "order 3;", 1, 0);
            isFault("order 3;" + (char) octet, 1, 8);
        }
        isFault("ord er 3;", 1, 0);
        isFault("order 1 0;", 1, 8);
        isFault("order 2;ro w 01;", 1, 8);
    }

    // I: "words (a .. z)"
    private static void wordsAreAToZ() {
        for (int octet = 0; octet < 256; octet++) {
            String text = "order" + (char) octet + "1;";
            boolean letter = octet >= 'a' && octet <= 'z';
            if (octet == 32 || octet == 10 || octet == '0') {
                isText(text, "order 1;");
            } else if (octet >= '1' && octet <= '9') {
                isFault(text, 2, 5);
            } else {
                isFault(text, 1, letter ? 0 : 5);
            }
        }
        isFault("Order 1;", 1, 0);
        isFault("ORDER 1;", 1, 0);
        isFault("orde 1;", 1, 0);
        isFault("orderr 1;", 1, 0);
        isFault("ordes 1;", 1, 0);
        isFault("rrder 1;", 1, 0);
        isFault("order 1;ro 0;", 1, 8);
        isFault("order 1;rows 0;", 1, 8);
        isFault("order 1;rox 0;", 1, 8);
        isFault("order 1;Row 0;", 1, 8);
    }

    // I: "digits"
    private static void digitsAre0To9() {
        for (int octet = 0; octet < 256; octet++) {
            String text = "order 1" + (char) octet + ";";
            if (octet == 32 || octet == 10) {
                isText(text, "order 1;");
            } else if (octet >= '0' && octet <= '9') {
                isFault(text, 2, 6);
            } else {
                isFault(text, 1, octet == ':' || octet == ';' ? 8 : 7);
            }
        }
    }

    // I: "TOKENS, .. the longest"
    private static void tokensAreTheLongest() {
        isFault("orderrow 1;", 1, 0);
        isFault("order 1;rowrow 0;", 1, 8);
        isFault("order 11;", 2, 6);
        isFault("order 2:0<11;", 2, 10);
        isFault("order 2:00<01<1;", 3, 14);
        isText("order1;row0;row0;", "order 1;row 0;row 0;");
    }

    // I: the place of "the end's" first byte; 4: a fault wherever the text is cut
    private static void everyCutOfAText() {
        String text = "order 2:0<1;row 01;";
        int[] places = {0, 0, 0, 0, 0, 5, 6, 7, 8, 9, 10, 11, -1, 12, 12, 15, 16, 16, 18, -1};
        for (int n = 0; n <= text.length(); n++) {
            String cut = text.substring(0, n);
            if (places[n] == -1) {
                isText(cut, cut);
            } else {
                isFault(cut, n == 17 ? 4 : 1, places[n]);
            }
        }
        // With blanks behind it the end is behind them.
        isFault("order 2 ", 1, 8);
        isFault("order 2\n\n\n", 1, 10);
        isFault(" ", 1, 1);
        isFault("", 1, 0);
    }

    // I: "of several the one whose first byte .. is least"
    private static void firstOfSeveralFaults() {
        isFault("order 9:0<0;row 7;@", 2, 6);
        isFault("order 2:0<0,0<2;row 00;", 3, 10);
        isFault("order 2:0<2,0<0;row 00;", 2, 10);
        isFault("order 2:0<1;row 00;row 0;@", 4, 16);
        isFault("order 2:0<1@;row 00;", 1, 11);
        isFault("order 1;" + SIX_ROWS + "row 1;@", 5, 44);
        isFault("order 1;row 1;" + SIX_ROWS + "row 0;", 4, 12);
        isFault("order 1;" + SIX_ROWS + "@row 0;", 1, 44);
        isFault("ordr 9:0<0;", 1, 0);
    }

    // I: "of one byte the least number"
    private static void leastNumberOfOneByte() {
        isFault("order 3 9;", 1, 8);
        isFault("order 3:0<1 9;", 1, 12);
        isFault("order 3:0<1 1<0;", 1, 12);
        isFault("order 2;row 01 01;", 1, 15);
        isFault("order 1;" + SIX_ROWS + "ros 0;", 1, 44);
        isFault("order 1;" + SIX_ROWS + "0;", 1, 44);
        // A number that is no thing is no thing below either.
        isFault("order 2:0<1<2;", 2, 12);
        isFault("order 9", 2, 6);
        isFault("order 2:0<0", 3, 10);
    }

    // I: fault 5: "a seventh row, at the word"
    private static void seventhRowAtTheWord() {
        isText("order 1;" + SIX_ROWS, "order 1;" + SIX_ROWS);
        isFault("order 1;" + SIX_ROWS + "row", 5, 44);
        isFault("order 1;" + SIX_ROWS + "row 0;", 5, 44);
        isFault("order 1;" + SIX_ROWS + "row 1;", 5, 44);
        isFault("order 1;" + SIX_ROWS + "row @", 5, 44);
        isFault("order 1;" + SIX_ROWS + "\n row 0;row 0;", 5, 46);
    }

    // 43: the shortest and the longest text, and "COVERS by numbers, .. without longer ones; ROWS"
    private static void tellShortestAndLongest() {
        OrderGauge g = Due.with("order 1;");
        due("43 shortest", g.tell(0), 8);
        due("6 bytes of out", g.count(3), 8);
        String rows = "row 01234567;row 76543210;row 01234567;row 01234567;row 01234567;row 70123456;";
        due("4 longest", Due.tell(g, 0, MOST_COVERS + rows), 16);
        due("43 longest", g.tell(0), 150);
        DUE.holds("43 whole", Due.out(g).equals(MOST_COVERS + rows));
        due("6 bytes of the longest", g.count(3), 150);
        isText("order 8:0<1<2<3<4<5<6<7,0<7,1<6;", "order 8:0<1,1<2,2<3,3<4,4<5,5<6,6<7;");
        isText("order 4:3<0,2<1,1<0,3<2;", "order 4:1<0,2<1,3<2;");
        isText("order 4:3<2,3<0,0<1,0<2;", "order 4:0<1,0<2,3<0;");
        due("43 is no act", g.count(1), 2);
    }

    // 43: "-2.", 44: "by a call that was not refused"
    private static void tellRefused() {
        OrderGauge g = Due.with("order 2:0<1;");
        g.tell(0);
        for (int slot : new int[] {-1, 1, 2, 3, LOW, HIGH}) {
            due("43 slot " + slot, g.tell(slot), -2);
            DUE.holds("44 out stays", Due.out(g).equals("order 2:0<1;"));
        }
    }

    // 44: "Byte i of OUT (.. whatever came since; empty ahead of any). NONE: there is none such."
    private static void octetOfOut() {
        OrderGauge g = Due.with("order 2:0<1;row 10;");
        due("44 empty ahead of any", g.octet(0), -1);
        due("43 bytes", g.tell(0), 19);
        due("44 first", g.octet(0), 'o');
        due("44 last", g.octet(18), ';');
        for (int i : new int[] {-1, 19, 20, 150, 160, LOW, HIGH, LOW + 1, 256, -256}) {
            due("44 byte " + i, g.octet(i), -1);
        }
        g.drops(0);
        Due.feed(g, "order 1;");
        due("44 whatever came since", g.octet(6), '2');
        g.told(0);
        due("44 still", g.octet(18), ';');
        due("43 shorter", g.tell(0), 8);
        due("44 last of the shorter", g.octet(7), ';');
        due("44 behind the shorter", g.octet(8), -1);
        g.undo();
        g.undo();
        due("44 undo leaves out", g.octet(6), '1');
    }
}
