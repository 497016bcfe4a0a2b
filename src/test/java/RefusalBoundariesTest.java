/** Every argument of every call: the last value on either side of each of its bounds, and values far off. */
public final class RefusalBoundariesTest {
    private static final Due DUE = new Due();
    private static final int LOW = Integer.MIN_VALUE;
    private static final int HIGH = Integer.MAX_VALUE;

    // What an argument can be; the bounds of some hang on the order that is asked.
    private static final int SLOT = 0;
    private static final int THING = 1;
    private static final int ROW = 2;
    private static final int SET = 3;
    private static final int TRIES = 4;
    private static final int PLACES = 5;
    private static final int FROM_0 = 6;
    private static final int FROM_NONE = 7;
    // From here on a what: 0 .. so many less 1.
    private static final int WHATS = 100;

    private static final String OF_ROWS = "row|rank|takes|jumpsOf|reversed";

    private static int things;
    private static int rows;

    public static void main(String[] args) {
        int[][] sizes = {{1, 1}, {1, 6}, {3, 2}, {7, 1}, {8, 6}};
        for (int[] size : sizes) {
            things = size[0];
            rows = size[1];
            calls();
        }
        things = 4;
        rows = 0;
        noRows();
        slotsThatHaveNothing();
        DUE.close("RefusalBoundariesTest");
    }

    private static void calls() {
        edges("told", SLOT);
        edges("look", SLOT, WHATS + 9);
        edges("of", SLOT, THING, WHATS + 5);
        edges("is", SLOT, WHATS + 7);
        edges("chain", SLOT, FROM_0);
        edges("anti", SLOT);
        edges("part", SLOT, THING);
        edges("lines", SLOT);
        edges("line", SLOT, FROM_0, THING);
        edges("rank", SLOT, ROW);
        edges("deep", SLOT, THING, WHATS + 2);
        edges("through", SLOT, SET);
        edges("before", SLOT, THING, THING);
        edges("at", SLOT, THING, THING);
        edges("mean", SLOT, THING, WHATS + 2);
        edges("balance", SLOT, WHATS + 2);
        edges("jumps", SLOT, WHATS + 2);
        edges("jumper", SLOT, WHATS + 2, THING);
        edges("jumpsOf", SLOT, ROW);
        edges("critical", SLOT, FROM_NONE);
        edges("reversed", SLOT, ROW);
        edges("rowsAre", SLOT, WHATS + 3);
        edges("ahead", SLOT, THING);
        edges("realizes", SLOT, PLACES, TRIES);
        edges("dimension", SLOT, TRIES);
        edges("row", SLOT, ROW, THING);
        edges("adds", SLOT, FROM_0);
        edges("takes", SLOT, ROW);
        edges("puts", SLOT, THING, THING);
        edges("cuts", SLOT, THING, THING);
        edges("flip", SLOT);
        edges("without", SLOT, THING);
        edges("joins", SLOT, SLOT, WHATS + 2, SLOT);
        edges("alike", SLOT, SLOT);
        edges("selves", SLOT);
        edges("drops", SLOT);
        edges("tell", SLOT);
    }

    // Without rows there is no row 0.
    private static void noRows() {
        for (String name : OF_ROWS.split("\\|")) {
            refused(name, new int[] {0, 0, 0, 0, 0});
        }
    }

    private static int least(int kind) {
        switch (kind) {
            case TRIES: case PLACES: return 1;
            case FROM_NONE: return -1;
            default: return 0;
        }
    }

    private static int greatest(int kind) {
        switch (kind) {
            case SLOT: return 2;
            case THING: return things - 1;
            case ROW: return rows - 1;
            case SET: return (1 << things) - 1;
            case TRIES: return 100000;
            case PLACES: return 4;
            case FROM_0: case FROM_NONE: return HIGH;
            default: return kind - WHATS - 1;
        }
    }

    // Each argument in turn goes over its bounds, while all others are at their least, then at their greatest.
    private static void edges(String name, int... kinds) {
        for (int changed = 0; changed < kinds.length; changed++) {
            for (boolean high : new boolean[] {false, true}) {
                int[] v = new int[5];
                for (int i = 0; i < kinds.length; i++) {
                    v[i] = high ? greatest(kinds[i]) : least(kinds[i]);
                }
                edge(name, v, changed, kinds[changed]);
            }
        }
    }

    private static void edge(String name, int[] v, int changed, int kind) {
        int least = least(kind);
        int greatest = greatest(kind);
        taken(name, with(v, changed, least));
        taken(name, with(v, changed, greatest));
        refused(name, with(v, changed, least - 1));
        refused(name, with(v, changed, LOW));
        refused(name, with(v, changed, LOW + Math.max(least, 0)));
        if (greatest == HIGH) {
            return;
        }
        refused(name, with(v, changed, greatest + 1));
        refused(name, with(v, changed, HIGH));
        // What would come round to a good one, if it were shifted by or cut to fewer bits.
        for (int far : new int[] {32, 256, 65536, 1 << 24, LOW, -32, -256}) {
            if (least + far < least || least + far > greatest) {
                refused(name, with(v, changed, least + far));
            }
        }
    }

    private static int[] with(int[] v, int changed, int value) {
        int[] other = v.clone();
        other[changed] = value;
        return other;
    }

    private static String text() {
        StringBuilder text = new StringBuilder("order " + things);
        for (int thing = 1; thing < things; thing += 2) {
            text.append(thing == 1 ? ":" : ",").append(thing - 1).append('<').append(thing);
        }
        text.append(';');
        for (int row = 0; row < rows; row++) {
            text.append("row ").append("01234567", 0, things).append(';');
        }
        return text.toString();
    }

    private static OrderGauge gauge() {
        OrderGauge g = Due.with(text());
        Due.tell(g, 1, text());
        Due.tell(g, 2, text());
        g.tell(0);
        Due.feed(g, "order 1;row 0;");
        return g;
    }

    private static String call(String name, int[] v) {
        return name + " " + java.util.Arrays.toString(v) + " of " + text();
    }

    private static void refused(String name, int[] v) {
        OrderGauge g = gauge();
        String was = state(g);
        DUE.due("-2: " + call(name, v), Calls.toGauge(g, name, v), -2);
        DUE.holds("nothing happens: " + call(name, v), state(g).equals(was));
    }

    private static void taken(String name, int[] v) {
        DUE.holds("not -2: " + call(name, v), Calls.toGauge(gauge(), name, v) != -2);
    }

    /** All that calls can tell of an object, without tell() itself. */
    private static String state(OrderGauge g) {
        StringBuilder all = new StringBuilder();
        for (int what = 0; what < 4; what++) {
            all.append(g.count(what)).append(' ').append(g.fault(what)).append(' ');
        }
        for (int slot = 0; slot < 3; slot++) {
            for (int thing = 0; thing < 8; thing++) {
                all.append(g.of(slot, thing, 0)).append(' ').append(g.of(slot, thing, 1)).append(' ');
                for (int row = 0; row < 7; row++) {
                    all.append(g.row(slot, row, thing));
                }
            }
        }
        return all + Due.out(g);
    }

    // "ORDER in it": one slot has one, the others are refused by all calls that ask for one.
    private static void slotsThatHaveNothing() {
        for (int filled = 0; filled < 3; filled++) {
            for (String name : Calls.NAMES) {
                boolean asks = !name.matches("feed|end|told|fault|count|drops|undo|octet");
                for (int slot = 0; asks && slot < 3; slot++) {
                    OrderGauge g = new OrderGauge();
                    Due.tell(g, filled, "order 2:0<1;row 01;");
                    int second = name.matches("alike|joins") ? filled : name.matches(OF_ROWS) ? 0 : 1;
                    int[] asked = {slot, second, 1, 0, 0};
                    int got = Calls.toGauge(g, name, asked);
                    DUE.holds(name + " of slot " + slot + ", filled " + filled, (got == -2) == (slot != filled));
                }
            }
            theOtherSlot(filled);
        }
    }

    private static void theOtherSlot(int filled) {
        for (int slot = 0; slot < 3; slot++) {
            OrderGauge g = new OrderGauge();
            Due.tell(g, filled, "order 2:0<1;row 01;");
            DUE.due("alike", g.alike(filled, slot), slot == filled ? 1 : -2);
            DUE.due("joins from", g.joins(filled, slot, 0, filled), slot == filled ? 4 : -2);
            DUE.due("joins into a slot that has nothing", g.joins(filled, filled, 1, slot), slot == filled ? 8 : 4);
            DUE.due("drops", g.drops(slot), 1);
            DUE.due("drops again", g.drops(slot), 0);
        }
    }
}
