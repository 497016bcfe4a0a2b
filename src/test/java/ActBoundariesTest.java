/** Boundary cases of promises 34 to 42, of term III and of the 512 calls: a method for each sentence. */
public final class ActBoundariesTest {
    private static final Due DUE = new Due();
    private static final int LOW = Integer.MIN_VALUE;
    private static final int HIGH = Integer.MAX_VALUE;

    private static final String ONE = "order 1;";
    private static final String FREE_8 = "order 8;";
    private static final String CHAIN_8 = "order 8:0<1<2<3<4<5<6<7;";

    public static void main(String[] args) {
        putsWhatFollows();
        putsWhatIsSo();
        putsWhatCanNotBe();
        putsRefusedFirst();
        cutsACover();
        cutsNoCover();
        cutsRefusedFirst();
        flipTurnsAllOver();
        withoutFirstAndLast();
        withoutTheOnlyOne();
        joinsUpToEight();
        joinsAboveAndBeside();
        joinsIntoItsOwnSlot();
        joinsRefusedFirst();
        alikeOrNot();
        selvesLeastAndMost();
        dropsOfNothing();
        actsOfOneSlotAlone();
        callsLeaveNothingBehind();
        actsThatAreNone();
        actsThatAre();
        callsThatAreNoActs();
        undoOfNone();
        undoTheLatestTen();
        undoRoundAndRound();
        undoGivesSlotsBack();
        undoLeavesTheRest();
        fiveHundredAndTwelveCalls();
        DUE.close("ActBoundariesTest");
    }

    private static void due(String what, int got, int want) {
        DUE.due(what, got, want);
    }

    private static void dueText(String what, OrderGauge g, int slot, String want) {
        g.tell(slot);
        String got = Due.out(g);
        DUE.holds(what + " is " + got + ", due is " + want, got.equals(want));
    }

    // 34: "and what follows from it: how many twos more"
    private static void putsWhatFollows() {
        OrderGauge g = Due.with("order 8:0<1<2<3,4<5<6<7;row 76543210;");
        due("34 the most", g.puts(0, 3, 4), 16);
        due("34 a chain", g.look(0, 1), 28);
        dueText("34 rows stay", g, 0, "order 8:0<1,1<2,2<3,3<4,4<5,5<6,6<7;row 76543210;");
        g = Due.with("order 8:0<1<2<3,4<5<6<7;");
        due("34 the fewest", g.puts(0, 0, 7), 1);
        due("34 what is below", g.puts(0, 1, 7), 1);
        due("34 those below and above", g.puts(0, 1, 5), 4);
        dueText("34 told", g, 0, "order 8:0<1,1<2,1<5,2<3,4<5,5<6,6<7;");
    }

    // 34: "0: it is so"
    private static void putsWhatIsSo() {
        OrderGauge g = Due.with("order 3:0<1<2;");
        due("34 told so", g.puts(0, 0, 1), 0);
        due("34 follows so", g.puts(0, 0, 2), 0);
        due("III no act", g.count(1), 1);
        g = Due.with("order 3:0<1;");
        due("34 not so yet", g.puts(0, 0, 2), 1);
        due("34 so now", g.puts(0, 0, 2), 0);
        due("III one act", g.count(1), 2);
    }

    // 34: "-6: it can not be (they are one, or the other one is BELOW it)"
    private static void putsWhatCanNotBe() {
        OrderGauge g = Due.with("order 3:0<1<2;");
        for (int thing = 0; thing < 3; thing++) {
            due("34 one", g.puts(0, thing, thing), -6);
        }
        due("34 covered", g.puts(0, 1, 0), -6);
        due("34 below, though not covered", g.puts(0, 2, 0), -6);
        due("III no act", g.count(1), 1);
        due("34 nothing happens", g.look(0, 1), 3);
        due("34 free ones", Due.with("order 2;").puts(0, 1, 0), 1);
    }

    // "-2 .. ahead of .. -6"
    private static void putsRefusedFirst() {
        OrderGauge g = Due.with("order 2:0<1;");
        due("34 one that is none", g.puts(0, 2, 2), -2);
        due("34 one that is none, below", g.puts(0, -1, -1), -2);
        due("34 the last and none", g.puts(0, 1, 2), -2);
        due("34 none and the first", g.puts(0, -1, 0), -2);
        due("34 shifted round", g.puts(0, 32, 33), -2);
        due("34 no such slot", g.puts(3, 0, 0), -2);
        due("34 no order", g.puts(1, 0, 0), -2);
    }

    // 35: "THING b COVERS a; it does not any more (they are FREE then): how many twos are BELOW one another."
    private static void cutsACover() {
        OrderGauge g = Due.with("order 2:0<1;row 01;");
        due("35 the only two", g.cuts(0, 0, 1), 0);
        due("35 free then", g.of(0, 0, 2), 2);
        dueText("35 rows stay", g, 0, "order 2;row 01;");
        g = Due.with(CHAIN_8);
        due("35 one of a chain", g.cuts(0, 3, 4), 27);
        dueText("35 the others stay", g, 0, "order 8:0<1,1<2,2<3,2<4,3<5,4<5,5<6,6<7;");
        due("35 a cover now", g.cuts(0, 2, 4), 26);
        due("35 acts", g.count(1), 3);
    }

    // 35: "-6: it does not COVER it"
    private static void cutsNoCover() {
        OrderGauge g = Due.with("order 4:0<1<2;");
        due("35 one between", g.cuts(0, 0, 2), -6);
        due("35 the other way", g.cuts(0, 1, 0), -6);
        due("35 free", g.cuts(0, 0, 3), -6);
        due("35 one", g.cuts(0, 1, 1), -6);
        due("III no act", g.count(1), 1);
        due("35 a cover", g.cuts(0, 1, 2), 2);
        due("35 not any more", g.cuts(0, 1, 2), -6);
        due("35 none is between now", g.cuts(0, 0, 2), 1);
    }

    private static void cutsRefusedFirst() {
        OrderGauge g = Due.with("order 2:0<1;");
        due("35 one that is none", g.cuts(0, 2, 2), -2);
        due("35 the last and none", g.cuts(0, 1, 2), -2);
        due("35 none and the last", g.cuts(0, -1, 1), -2);
        due("35 shifted round", g.cuts(0, 32, 33), -2);
        due("35 no such slot", g.cuts(-1, 0, 0), -2);
        due("35 no order", g.cuts(2, 0, 0), -2);
    }

    // 36: "(who was BELOW is ABOVE), each ROW, too: the HEIGHT"
    private static void flipTurnsAllOver() {
        OrderGauge g = Due.with(CHAIN_8 + "row 01234567;row 01234567;row 01234567;row 01234567;row 01234567;row 12345670;");
        due("36 eight", g.flip(0), 8);
        dueText("36 told", g, 0, "order 8:1<0,2<1,3<2,4<3,5<4,6<5,7<6;row 76543210;row 76543210;row 76543210;"
                + "row 76543210;row 76543210;row 07654321;");
        due("36 back", g.flip(0), 8);
        due("36 as it was", g.of(0, 7, 0), 127);
        due("III both are acts", g.count(1), 3);
        g = Due.with("order 3:0<1;row 120;");
        due("36 odd", g.flip(0), 2);
        dueText("36 odd told", g, 0, "order 3:1<0;row 021;");
        due("36 one", Due.with(ONE).flip(0), 1);
        due("36 free", Due.with(FREE_8).flip(0), 1);
    }

    // 37: "those of greater number have one less: how many there are"
    private static void withoutFirstAndLast() {
        OrderGauge g = Due.with("order 4:0<1<2<3;row 0123;row 3120;");
        due("37 the first", g.without(0, 0), 3);
        dueText("37 first told", g, 0, "order 3:0<1,1<2;row 012;row 201;");
        g.undo();
        due("37 the last", g.without(0, 3), 3);
        dueText("37 last told", g, 0, "order 3:0<1,1<2;row 012;row 120;");
        g.undo();
        due("37 between: what followed stays", g.without(0, 1), 3);
        dueText("37 between told", g, 0, "order 3:0<1,1<2;row 012;row 210;");
        g = Due.with("order 4:3<0,2<0,0<1;");
        due("37 those below thing 0", g.without(0, 2), 3);
        due("37 one less", g.of(0, 0, 0), 4);
        due("37 above it as before", g.of(0, 0, 1), 2);
        due("37 and from there", g.of(0, 2, 1), 3);
        g = Due.with(CHAIN_8 + "row 01234567;");
        for (int left = 7; left >= 1; left--) {
            due("37 eight to one", g.without(0, left % 2 == 0 ? 0 : left), left);
            due("37 a chain", g.is(0, 0), 1);
            due("37 its line", g.rank(0, 0), 0);
        }
    }

    // 37: "-6: it is the only one; -2."
    private static void withoutTheOnlyOne() {
        OrderGauge g = Due.with("order 2;row 10;");
        due("37 thing 2", g.without(0, 2), -2);
        due("37 thing -1", g.without(0, -1), -2);
        due("37 one of two", g.without(0, 1), 1);
        due("37 the only one", g.without(0, 0), -6);
        due("37 none ahead of -6", g.without(0, 1), -2);
        due("37 below ahead of -6", g.without(0, -1), -2);
        due("37 no slot ahead of -6", g.without(3, 0), -2);
        due("III no act", g.count(1), 2);
        dueText("37 it stays", g, 0, "order 1;row 0;");
    }

    // 38: "N. -5: it would be above 8"
    private static void joinsUpToEight() {
        for (int one = 1; one <= 8; one++) {
            for (int two = 1; two <= 8; two++) {
                OrderGauge g = Due.with("order " + one + ";");
                Due.tell(g, 1, "order " + two + ";");
                for (int above = 0; above < 2; above++) {
                    due("38 " + one + " and " + two, g.joins(0, 1, above, 2), one + two <= 8 ? one + two : -5);
                }
                due("38 the slot", g.look(2, 0), one + two <= 8 ? one + two : -2);
                due("III acts", g.count(1), one + two <= 8 ? 4 : 2);
            }
        }
    }

    // 38: "beside one another (above 0), or the other one ABOVE all of the one (1); no ROWS"
    private static void joinsAboveAndBeside() {
        OrderGauge g = Due.with("order 2:1<0;row 10;");
        Due.tell(g, 1, "order 3:2<0;row 012;");
        Due.tell(g, 2, "order 1;row 0;row 0;");
        due("38 beside", g.joins(0, 1, 0, 2), 5);
        dueText("38 beside told", g, 2, "order 5:1<0,4<2;");
        due("38 above", g.joins(0, 1, 1, 2), 5);
        dueText("38 above told", g, 2, "order 5:0<3,0<4,1<0,4<2;");
        due("38 the other way", g.joins(1, 0, 1, 2), 5);
        dueText("38 the other way told", g, 2, "order 5:0<4,1<4,2<0,4<3;");
        dueText("38 the one stays", g, 0, "order 2:1<0;row 10;");
        dueText("38 the other stays", g, 1, "order 3:2<0;row 012;");
    }

    private static void joinsIntoItsOwnSlot() {
        OrderGauge g = Due.with("order 2:0<1;row 01;");
        due("38 with itself, into itself", g.joins(0, 0, 0, 0), 4);
        dueText("38 told", g, 0, "order 4:0<1,2<3;");
        due("38 again", g.joins(0, 0, 1, 0), 8);
        dueText("38 again told", g, 0, "order 8:0<1,1<4,1<6,2<3,3<4,3<6,4<5,6<7;");
        due("38 above 8", g.joins(0, 0, 0, 0), -5);
        due("42 undone", g.undo(), 2);
        due("42 undone again", g.undo(), 1);
        dueText("42 with its row", g, 0, "order 2:0<1;row 01;");
        Due.tell(g, 1, "order 1;");
        due("38 into the other's", g.joins(0, 1, 1, 1), 3);
        dueText("38 the other's told", g, 1, "order 3:0<1,1<2;");
    }

    // 38: "-2: there are none such", ahead of -5
    private static void joinsRefusedFirst() {
        OrderGauge g = Due.with(FREE_8);
        Due.tell(g, 1, FREE_8);
        due("38 above 8", g.joins(0, 1, 0, 2), -5);
        for (int bad : new int[] {-1, 3, LOW, HIGH}) {
            due("38 slot " + bad, g.joins(bad, 1, 0, 2), -2);
            due("38 other " + bad, g.joins(0, bad, 0, 2), -2);
            due("38 to " + bad, g.joins(0, 1, 0, bad), -2);
            due("38 above " + bad, g.joins(0, 1, bad, 2), -2);
        }
        due("38 above 2", g.joins(0, 1, 2, 2), -2);
        due("38 no order in the other", g.joins(0, 2, 0, 2), -2);
        due("38 no order in the one", g.joins(2, 0, 0, 2), -2);
        due("III no act", g.count(1), 2);
        due("38 nothing came", g.count(0), 3);
    }

    private static void alike(String one, String other, int want) {
        OrderGauge g = Due.with(one);
        Due.tell(g, 2, other);
        due("39 " + one + " and " + other, g.alike(0, 2), want);
        due("39 " + other + " and " + one, g.alike(2, 0), want);
        due("39 itself", g.alike(0, 0), 1);
        due("39 no order", g.alike(0, 1), -2);
        due("39 no order, the one", g.alike(1, 0), -2);
    }

    // 39: "1 if two ORDERS are LIKE, else 0."
    private static void alikeOrNot() {
        alike(ONE, ONE, 1);
        alike(ONE, "order 2;", 0);
        alike("order 7;", FREE_8, 0);
        alike(CHAIN_8, "order 8:7<6<5<4<3<2<1<0;", 1);
        alike(CHAIN_8, "order 8:0<1<2<3<4<5<6,5<7;", 0);
        alike("order 2;", "order 2:0<1;", 0);
        alike("order 2:0<1;", "order 2:1<0;row 10;", 1);
        alike("order 3:0<1,0<2;", "order 3:0<2,1<2;", 0);
        alike("order 4:0<1,2<3;", "order 4:3<0,1<2;", 1);
        // As many below and above each thing, yet one part of eight, and two parts of four.
        alike("order 8:0<4,0<5,1<5,1<6,2<6,2<7,3<7,3<4;", "order 8:0<4,0<5,1<4,1<5,2<6,2<7,3<6,3<7;", 0);
    }

    // 40: the fewest and the most
    private static void selvesLeastAndMost() {
        due("40 one", Due.with(ONE).selves(0), 1);
        due("40 chain", Due.with(CHAIN_8).selves(0), 1);
        due("40 free", Due.with(FREE_8).selves(0), 40320);
        due("40 seven free", Due.with("order 7;").selves(0), 5040);
        due("40 one two", Due.with("order 8:7<0;").selves(0), 720);
        due("40 rows do not count", Due.with("order 2;row 01;").selves(0), 2);
        due("40 four twos", Due.with("order 8:0<1,2<3,4<5,6<7;").selves(0), 24);
        due("40 four on four", Due.with("order 8:0<4,0<5,0<6,0<7,1<4,1<5,1<6,1<7,2<4,2<5,2<6,2<7,3<4,3<5,3<6,3<7;")
                .selves(0), 576);
    }

    // 41: "1 if it had an ORDER, else 0. -2: no such SLOT."
    private static void dropsOfNothing() {
        OrderGauge g = Due.with("order 2;row 01;");
        for (int slot : new int[] {-1, 3, LOW, HIGH}) {
            due("41 slot " + slot, g.drops(slot), -2);
        }
        due("41 slot 1 had none", g.drops(1), 0);
        due("41 slot 2 had none", g.drops(2), 0);
        due("III no acts", g.count(1), 1);
        due("41 had one", g.drops(0), 1);
        due("III an act", g.count(1), 2);
        due("41 has none now", g.drops(0), 0);
        due("III no act again", g.count(1), 2);
        due("41 nothing", g.count(0), 0);
        due("42 undone", g.undo(), 1);
        dueText("42 back", g, 0, "order 2;row 01;");
        g.drops(0);
        Due.tell(g, 0, "order 2;");
        due("41 its rows are gone", g.look(0, 8), 0);
    }

    private static OrderGauge three() {
        OrderGauge g = Due.with("order 4:3<1,2<1;row 3210;");
        Due.tell(g, 1, "order 3:2<0;row 210;row 012;");
        Due.tell(g, 2, "order 2:0<1;row 01;row 01;row 10;");
        return g;
    }

    private static void act(String name, int a, int b, int answer, String want) {
        OrderGauge g = three();
        due(name, Calls.toGauge(g, name, new int[] {0, a, b, 0, 0}), answer);
        dueText(name + " slot 0", g, 0, want);
        dueText(name + " slot 1", g, 1, "order 3:2<0;row 210;row 012;");
        dueText(name + " slot 2", g, 2, "order 2:0<1;row 01;row 01;row 10;");
        due(name + " is an act", g.count(1), 4);
        due(name + " undone", g.undo(), 3);
        dueText(name + " slot 0 as it was", g, 0, "order 4:2<1,3<1;row 3210;");
    }

    // 29, 32 to 37: an act is of its own slot, whichever slot had the one ahead of it
    private static void actsOfOneSlotAlone() {
        act("adds", 0, 0, 2, "order 4:2<1,3<1;row 3210;row 0231;");
        act("takes", 0, 0, 0, "order 4:2<1,3<1;");
        act("puts", 0, 3, 2, "order 4:0<3,2<1,3<1;row 3210;");
        act("cuts", 2, 1, 1, "order 4:3<1;row 3210;");
        act("flip", 0, 0, 2, "order 4:1<2,1<3;row 0123;");
        act("without", 0, 0, 3, "order 3:1<0,2<0;row 210;");
        act("realizes", 2, 100, 8, "order 4:2<1,3<1;row 3210;row 0231;");
    }

    // What a call worked out for one order is not taken for another.
    private static void callsLeaveNothingBehind() {
        OrderGauge both = Due.with("order 5:0<1<2,3<4;row 01234;");
        Due.tell(both, 1, "order 8:7<6<5,4<3,2<1;row 76543210;");
        OrderGauge one = Due.with("order 5:0<1<2,3<4;row 01234;");
        OrderGauge other = Due.with("order 8:7<6<5,4<3,2<1;row 76543210;");
        for (String name : Calls.NAMES) {
            boolean asks = !name.matches("feed|end|told|fault|count|drops|undo|octet|alike|joins")
                    && !name.matches("adds|takes|puts|cuts|flip|without");
            for (int k = 0; asks && k < 32; k++) {
                int[] v = {0, k / 4 % 8, k % 4, 0, 0};
                int[] second = {1, k / 4 % 8, k % 4, 0, 0};
                if (name.equals("realizes") || name.equals("dimension")) {
                    v[1] = second[1] = 2;
                    v[2] = second[2] = 1;
                }
                due(name + " of the one", Calls.toGauge(both, name, v), Calls.toGauge(one, name, v));
                due(name + " of the other", Calls.toGauge(both, name, second), Calls.toGauge(other, name, v));
            }
        }
    }

    // III: "told(), realizes(), flip(), joins() by which a SLOT becomes otherwise (ORDER, ROWS)"
    private static void actsThatAreNone() {
        OrderGauge g = Due.with("order 2;row 01;");
        Due.tell(g, 0, "order 2;row 01;");
        due("III told as it was", g.count(1), 1);
        Due.tell(g, 0, "order 2;row 10;");
        due("III another row", g.count(1), 2);
        Due.tell(g, 0, "order 2;row 10;row 10;");
        due("III a row more", g.count(1), 3);
        Due.tell(g, 0, "order 2:0<1;row 10;row 10;");
        due("III another order", g.count(1), 4);
        Due.tell(g, 0, "order 3:0<1;");
        due("III another N", g.count(1), 5);
        Due.tell(g, 1, "order 3:0<1;");
        due("III another slot", g.count(1), 6);
        g = Due.with("order 2;");
        Due.tell(g, 0, "order 2:1<0;");
        due("III thing 0 alone is above another", g.count(1), 2);
        g = Due.with("order 2;row 01;row 10;");
        g.takes(0, 1);
        Due.tell(g, 1, "order 2;row 01;row 01;");
        Due.tell(g, 0, "order 2;row 01;");
        due("III told as it was since a row went", g.count(1), 3);
        g = Due.with("order 2;row 10;row 01;");
        g.realizes(0, 2, 9);
        due("III the same rows", g.count(1), 1);
        g.realizes(0, 3, 9);
        due("III a row more", g.count(1), 2);
        g = Due.with("order 3;");
        g.flip(0);
        due("III free ones flipped", g.count(1), 1);
        g = Due.with("order 1;row 0;row 0;");
        g.flip(0);
        due("III one flipped", g.count(1), 1);
        g = Due.with("order 3;row 012;");
        g.flip(0);
        due("III a row flipped", g.count(1), 2);
        g = Due.with("order 1;");
        Due.tell(g, 1, "order 2:0<1;");
        g.joins(0, 0, 1, 1);
        due("III joined as it was", g.count(1), 2);
        g.joins(0, 0, 0, 1);
        due("III joined otherwise", g.count(1), 3);
        g.adds(1, 0);
        g.joins(0, 0, 0, 1);
        due("III joined without the row", g.count(1), 5);
    }

    // III: "adds(), takes(), puts() of some, cuts(), without(), drops() of one that had an ORDER"
    private static void actsThatAre() {
        OrderGauge g = Due.with("order 3;row 012;row 012;");
        g.takes(0, 1);
        due("III takes one of like ones", g.count(1), 2);
        g.adds(0, 0);
        due("III adds a like one", g.count(1), 3);
        g.puts(0, 0, 1);
        due("III puts", g.count(1), 4);
        g.cuts(0, 0, 1);
        due("III cuts", g.count(1), 5);
        g.without(0, 2);
        due("III without", g.count(1), 6);
        g.drops(0);
        due("III drops", g.count(1), 7);
        String[] were = {"order 2;row 01;row 01;", "order 3;row 012;row 012;", "order 3:0<1;row 012;row 012;",
            "order 3;row 012;row 012;", "order 3;row 012;", "order 3;row 012;row 012;"};
        for (int k = 0; k < were.length; k++) {
            due("42 undo", g.undo(), 6 - k);
            dueText("42 back " + k, g, 0, were[k]);
        }
        due("42 the first", g.undo(), 0);
        due("42 nothing was", g.count(0), 0);
    }

    // III: all other calls, and those that are refused
    private static void callsThatAreNoActs() {
        OrderGauge g = Due.with("order 3:0<1;row 201;");
        String acts = "told|realizes|flip|joins|adds|takes|puts|cuts|without|drops|undo";
        for (String name : Calls.NAMES) {
            for (int first = -1; first < 4 && !name.matches(acts); first++) {
                Calls.toGauge(g, name, new int[] {first, 1, 1, 1, 1});
                due("III " + name, g.count(1), 1);
            }
        }
        dueText("III nothing became otherwise", g, 0, "order 3:0<1;row 201;");
    }

    // 42: "NONE: none."
    private static void undoOfNone() {
        OrderGauge g = new OrderGauge();
        due("42 none", g.undo(), -1);
        Due.tell(g, 0, "order 1");
        due("42 a fault is none", g.undo(), -1);
        Due.tell(g, 0, "order 1;");
        due("42 one", g.undo(), 0);
        due("42 none left", g.undo(), -1);
        due("42 none still", g.undo(), -1);
        due("42 nothing", g.count(0), 0);
        due("6 none", g.count(1), 0);
    }

    // III: "The latest 10 can be undone one by one"
    private static void undoTheLatestTen() {
        for (int acts = 1; acts <= 23; acts++) {
            OrderGauge g = new OrderGauge();
            for (int act = 1; act <= acts; act++) {
                Due.tell(g, act % 3, "order " + (act % 8 + 1) + ";");
                due("6 acts", g.count(1), Math.min(act, 10));
            }
            for (int left = Math.min(acts, 10) - 1; left >= 0; left--) {
                due("42 undo", g.undo(), left);
            }
            due("42 none left", g.undo(), -1);
            due("42 the oldest stay", g.count(0), acts <= 10 ? 0 : acts == 11 ? 2 : acts == 12 ? 6 : 7);
        }
    }

    // The eleventh act pushes the first out, and so on, however often acts and undoings change about.
    private static void undoRoundAndRound() {
        OrderGauge g = new OrderGauge();
        for (int n = 1; n <= 8; n++) {
            Due.tell(g, 0, "order " + n + ";");
        }
        Due.tell(g, 0, "order 1;");
        due("42 nine", g.count(1), 9);
        Due.tell(g, 0, "order 2;");
        due("42 ten", g.count(1), 10);
        Due.tell(g, 0, "order 3;");
        due("42 eleven: ten", g.count(1), 10);
        Due.tell(g, 0, "order 4;");
        due("42 twelve: ten", g.count(1), 10);
        int[] were = {3, 2, 1, 8, 7, 6, 5, 4, 3, 2};
        for (int k = 0; k < 10; k++) {
            due("42 undo", g.undo(), 9 - k);
            due("42 N as it was", g.look(0, 0), were[k]);
        }
        due("42 no more", g.undo(), -1);
        due("42 the oldest stay", g.look(0, 0), 2);
        for (int turn = 0; turn < 30; turn++) {
            Due.tell(g, 1, "order " + (turn % 8 + 1) + ";");
            Due.tell(g, 2, "order " + (turn % 7 + 1) + ";");
            due("42 acts", g.count(1), Math.min(turn + 2, 10));
            due("42 undo", g.undo(), Math.min(turn + 2, 10) - 1);
            due("42 slot 2 as it was", g.look(2, 0), -2);
            due("42 slot 1 stays", g.look(1, 0), turn % 8 + 1);
        }
    }

    // III: "(SLOTS as they were)"
    private static void undoGivesSlotsBack() {
        OrderGauge g = Due.with("order 3:0<1;row 201;");
        Due.tell(g, 1, "order 2:1<0;row 10;row 01;");
        g.joins(0, 1, 1, 0);
        g.joins(1, 1, 0, 1);
        g.joins(1, 1, 0, 2);
        g.flip(1);
        due("42 undo flip", g.undo(), 5);
        dueText("42 slot 1 joined", g, 1, "order 4:1<0,3<2;");
        due("42 undo joins of slot 2", g.undo(), 4);
        due("42 slot 2 had nothing", g.look(2, 0), -2);
        due("42 undo joins", g.undo(), 3);
        dueText("42 slot 1 told", g, 1, "order 2:1<0;row 10;row 01;");
        due("42 undo joins of slot 0", g.undo(), 2);
        dueText("42 slot 0 told", g, 0, "order 3:0<1;row 201;");
        due("42 undo told", g.undo(), 1);
        due("42 slot 1 has nothing", g.look(1, 0), -2);
        dueText("42 slot 0 stays", g, 0, "order 3:0<1;row 201;");
    }

    // 42: slots alone are given back: the tape, out and the fault stay
    private static void undoLeavesTheRest() {
        OrderGauge g = Due.with("order 2;");
        g.tell(0);
        Due.tell(g, 0, "order 3:0<0;");
        Due.feed(g, "order");
        due("42 undo", g.undo(), 0);
        due("42 tape", g.count(2), 5);
        due("42 out", g.count(3), 8);
        due("42 octet", g.octet(6), '2');
        due("42 fault", g.fault(0), 3);
        due("42 place", g.fault(1), 10);
        due("42 undo of none", g.undo(), -1);
        due("42 tape still", g.count(2), 5);
    }

    // "An object is used for at most 512 calls after it has been made"
    private static void fiveHundredAndTwelveCalls() {
        OrderGauge g = new OrderGauge();
        g.feed(0x6f726465, 0x7220383b, 0, 0, 0);
        g.end(8);
        g.told(0);
        for (int call = 4; call <= 511; call += 2) {
            due("call " + call, g.puts(0, 0, 7), 1);
            due("call " + (call + 1), g.cuts(0, 0, 7), 0);
        }
        due("call 512", g.lines(0), 40320);
    }
}
