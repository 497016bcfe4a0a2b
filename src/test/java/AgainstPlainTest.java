import java.util.Arrays;
import java.util.Random;

/** Long runs of calls, told by a fixed seed, answered alike by the class and by its plain twin. */
public final class AgainstPlainTest {
    private static final int CALLS = 512;
    private static final Due DUE = new Due();

    private final Random random;
    private final String run;
    private final OrderGauge gauge = new OrderGauge();
    private final PlainGauge plain = new PlainGauge();
    private int calls;

    private AgainstPlainTest(long seed) {
        random = new Random(seed);
        run = "seed " + seed + ": ";
    }

    public static void main(String[] args) {
        int runs = args.length > 0 ? Integer.parseInt(args[0]) : 250;
        long first = args.length > 1 ? Long.parseLong(args[1]) : 1;
        for (int seed = 0; seed < runs; seed++) {
            new AgainstPlainTest(first + seed).go();
        }
        for (int seed = 0; seed < 4 * runs; seed++) {
            new AgainstPlainTest(first + seed).searchWithBacks();
        }
        everySmallOrder();
        DUE.close("AgainstPlainTest");
    }

    private int ask(String name, int... v) {
        calls++;
        int want = Calls.toPlain(plain, name, v);
        DUE.due(run + "call " + calls + " " + name + Arrays.toString(v), Calls.toGauge(gauge, name, v), want);
        return want;
    }

    private void go() {
        for (int slot = random.nextInt(4); slot < 3; slot++) {
            tellText(slot, text());
        }
        while (calls < CALLS - 20) {
            int choice = random.nextInt(100);
            if (choice < 6) {
                tellText(slot(), random.nextInt(3) == 0 ? spoiled(text()) : text());
            } else if (choice < 8) {
                change();
                change();
            } else if (choice < 30) {
                change();
            } else if (choice < 33) {
                wild();
            } else {
                question();
            }
        }
    }

    private void wild() {
        String name = Calls.NAMES[random.nextInt(Calls.NAMES.length)];
        int[] v = new int[5];
        int[] edges = {-1, 0, 1, 8, 32, 255, 256, -2, 6, Integer.MAX_VALUE, Integer.MIN_VALUE, 100000, 100001};
        for (int i = 0; i < v.length; i++) {
            v[i] = random.nextBoolean() ? edges[random.nextInt(edges.length)] : random.nextInt(4);
        }
        ask(name, v);
    }

    private int slot() {
        return random.nextInt(12) == 0 ? random.nextInt(5) - 1 : random.nextInt(3);
    }

    private int near(int bound) {
        return random.nextInt(15) == 0 ? random.nextInt(bound + 4) - 2 : random.nextInt(Math.max(1, bound));
    }

    private int size(int slot) {
        PlainGauge.Plain order = plain.plain(slot);
        return order == null ? 3 : order.n;
    }

    private int lines(int slot) {
        PlainGauge.Plain order = plain.plain(slot);
        return order == null ? 3 : order.lines().size();
    }

    private int rows(int slot) {
        PlainGauge.Plain order = plain.plain(slot);
        return order == null ? 1 : order.rows.size();
    }

    private int tries() {
        int choice = random.nextInt(40);
        return choice == 0 ? 100000 : choice == 1 ? random.nextInt(3) - 1 : choice < 12 ? 2000 : 1 + random.nextInt(120);
    }

    private void change() {
        int s = slot();
        switch (random.nextInt(14)) {
            case 0: case 1: case 2: ask("puts", s, near(size(s)), near(size(s))); break;
            case 3: case 4: ask("cuts", s, near(size(s)), near(size(s))); break;
            case 5: ask("flip", s); break;
            case 6: if (random.nextInt(3) == 0) ask("without", s, near(size(s))); break;
            case 7: ask("joins", s, slot(), near(2), slot()); break;
            case 8: case 9: ask("adds", s, near(lines(s))); break;
            case 10: ask("takes", s, near(rows(s))); break;
            case 11: ask("realizes", s, 1 + near(4), tries()); break;
            case 12: if (random.nextInt(6) == 0) ask("drops", s); break;
            default: ask("undo"); ask("count", 1); break;
        }
    }

    private void question() {
        int s = slot();
        int n = size(s);
        switch (random.nextInt(35)) {
            case 0: ask("look", s, near(9)); break;
            case 1: ask("of", s, near(n), near(5)); break;
            case 2: case 3: ask("is", s, near(7)); break;
            case 4: ask("chain", s, near(n)); break;
            case 5: ask("anti", s); break;
            case 6: case 7: ask("part", s, near(n)); break;
            case 8: ask("lines", s); break;
            case 9: ask("line", s, near(lines(s)), near(n)); break;
            case 10: ask("rank", s, near(rows(s))); break;
            case 11: ask("deep", s, near(n), near(2)); break;
            case 12: ask("through", s, near(1 << n)); break;
            case 13: ask("before", s, near(n), near(n)); break;
            case 14: ask("at", s, near(n), near(n)); break;
            case 15: ask("mean", s, near(n), near(2)); break;
            case 16: case 17: ask("balance", s, near(2)); break;
            case 18: ask("jumps", s, near(2)); break;
            case 19: case 20: ask("jumper", s, near(2), near(n)); break;
            case 21: ask("jumpsOf", s, near(rows(s))); break;
            case 22: ask("critical", s, random.nextInt(12) - 2); break;
            case 23: ask("reversed", s, near(rows(s))); break;
            case 24: ask("rowsAre", s, near(3)); break;
            case 25: ask("ahead", s, near(n)); break;
            case 26: ask("dimension", s, tries()); break;
            case 27: ask("row", s, near(rows(s)), near(n)); break;
            case 28: ask("alike", s, slot()); break;
            case 29: ask("selves", s); break;
            case 30: case 31: case 32: ask("tell", s); for (int i = 0; i < 4; i++) ask("octet", near(60)); break;
            case 33: ask("count", near(4)); break;
            default: ask("fault", near(2)); break;
        }
    }

    private void tellText(int slot, String text) {
        if (random.nextInt(10) > 0) {
            ask("end", 0);
        }
        byte[] all = Due.bytes(text);
        int had = ask("count", 2);
        for (int i = 0; i < all.length; i += 20) {
            ask("feed", Due.four(all, i), Due.four(all, i + 4), Due.four(all, i + 8), Due.four(all, i + 12),
                    Due.four(all, i + 16));
        }
        ask("end", had + all.length);
        ask("told", slot);
        ask("fault", 0);
        ask("fault", 1);
    }

    private String blank() {
        int choice = random.nextInt(12);
        return choice == 0 ? " " : choice == 1 ? "\n" : choice == 2 ? "  " : "";
    }

    private String text() {
        int n = random.nextInt(4) == 0 ? 1 + random.nextInt(8) : 3 + random.nextInt(5);
        int[] order = shuffled(n);
        StringBuilder text = new StringBuilder(blank() + "order" + blank() + n + blank());
        int climbs = n < 2 ? 0 : random.nextInt(n + 2);
        for (int c = 0; c < climbs; c++) {
            text.append(c == 0 ? ":" : ",").append(blank());
            int at = random.nextInt(n - 1);
            text.append(number(order[at]));
            int steps = random.nextInt(5) == 0 ? 3 : 1;
            for (int i = 0; i < steps && at < n - 1; i++) {
                at += 1 + random.nextInt(n - 1 - at);
                text.append(blank()).append("<").append(blank()).append(number(order[at]));
            }
        }
        text.append(blank()).append(";");
        int rows = random.nextInt(3) > 0 ? 0 : random.nextInt(20) == 0 ? 7 : random.nextInt(6);
        for (int r = 0; r < rows; r++) {
            text.append(blank()).append("row").append(blank());
            for (int x : random.nextBoolean() ? order : shuffled(n)) {
                text.append(x);
            }
            text.append(blank()).append(";");
        }
        return text.append(blank()).toString();
    }

    private String number(int thing) {
        return (random.nextInt(40) == 0 ? "00000000000" : "") + (random.nextInt(60) == 0 ? "42949672961" : "") + thing;
    }

    private int[] shuffled(int n) {
        int[] row = new int[n];
        for (int i = 0; i < n; i++) {
            int j = random.nextInt(i + 1);
            row[i] = row[j];
            row[j] = i;
        }
        return row;
    }

    private String spoiled(String text) {
        StringBuilder spoiled = new StringBuilder(text);
        String signs = "01234567899:;<<<,, \nrowrder\u0000\u00ff\u00b9@A`{/";
        for (int times = 1 + random.nextInt(2); times > 0; times--) {
            int at = random.nextInt(spoiled.length());
            char sign = signs.charAt(random.nextInt(signs.length()));
            switch (random.nextInt(4)) {
                case 0: spoiled.setCharAt(at, sign); break;
                case 1: spoiled.insert(at, sign); break;
                case 2: spoiled.setLength(Math.max(1, at)); break;
                default: if (spoiled.length() > 1) spoiled.deleteCharAt(at); break;
            }
        }
        return spoiled.toString();
    }

    /** Orders of two levels, whose searches go back often: tries to the number, and the rows. */
    private void searchWithBacks() {
        int low = 3 + random.nextInt(2);
        int high = 3 + random.nextInt(2);
        int[] named = shuffled(low + high);
        StringBuilder text = new StringBuilder("order " + (low + high));
        String sign = ":";
        for (int a = 0; a < low; a++) {
            for (int b = 0; b < high; b++) {
                if (random.nextInt(3) > 0) {
                    text.append(sign).append(named[a]).append("<").append(named[low + b]);
                    sign = ",";
                }
            }
        }
        tellText(0, text + ";");
        int[] again = shuffled(low + high);
        StringBuilder renamed = new StringBuilder();
        for (char digit : text.toString().toCharArray()) {
            boolean thing = renamed.length() > 7 && digit >= '0' && digit <= '7';
            renamed.append(thing ? (char) ('0' + again[digit - '0']) : digit);
        }
        tellText(1, renamed + ";");
        ask("alike", 0, 1);
        ask("puts", 1, named[0], named[low]);
        ask("cuts", 1, again[named[0]], again[named[low]]);
        ask("alike", 0, 1);
        ask("selves", 0);
        for (int t = 2; t <= 4; t++) {
            int took = ask("realizes", 0, t, 3000);
            ask("realizes", 0, t, Math.max(1, took - 1));
            ask("tell", 0);
            for (int i = text.length(); ask("octet", i) >= 0; i++) {
                continue;
            }
        }
        ask("dimension", 0, 3000);
    }

    /** All orders of up to four things: what does not depend on rows. */
    private static void everySmallOrder() {
        for (int n = 1; n <= 4; n++) {
            for (int code = 0; code < 1 << n * n; code++) {
                boolean[][] less = new boolean[n][n];
                for (int i = 0; i < n * n; i++) {
                    less[i / n][i % n] = (code >> i & 1) == 1;
                }
                if (isOrder(less)) {
                    measureAll(n, less);
                }
            }
        }
    }

    private static boolean isOrder(boolean[][] less) {
        boolean[][] closed = PlainGauge.copy(less);
        PlainGauge.close(closed);
        for (int i = 0; i < less.length; i++) {
            if (closed[i][i]) {
                return false;
            }
        }
        return Arrays.deepEquals(less, closed);
    }

    private static void measureAll(int n, boolean[][] less) {
        StringBuilder text = new StringBuilder();
        for (int a = 0; a < n; a++) {
            for (int b = 0; b < n; b++) {
                if (less[a][b]) {
                    text.append(text.length() == 0 ? ":" : ",").append(a).append("<").append(b);
                }
            }
        }
        AgainstPlainTest test = new AgainstPlainTest(0);
        test.tellText(0, "order " + n + text + ";");
        for (int x = 0; x < 9; x++) {
            test.ask("look", 0, x);
            test.ask("is", 0, x);
        }
        for (int x = 0; x < n; x++) {
            test.ask("chain", 0, x);
            test.ask("part", 0, x);
            test.ask("mean", 0, x, 0);
            test.ask("mean", 0, x, 1);
            test.ask("jumper", 0, 0, x);
            test.ask("jumper", 0, 1, x);
            for (int y = 0; y < n; y++) {
                test.ask("before", 0, x, y);
                test.ask("at", 0, x, y);
            }
            for (int what = 0; what < 5; what++) {
                test.ask("of", 0, x, what);
                test.ask("deep", 0, x, what);
            }
        }
        for (String name : new String[] {"anti", "lines", "selves", "tell"}) {
            test.ask(name, 0);
        }
        for (int k = 0; k < 1 << n; k++) {
            test.ask("through", 0, k);
            test.ask("critical", 0, k - 1);
        }
        for (int what = 0; what < 2; what++) {
            test.ask("balance", 0, what);
            test.ask("jumps", 0, what);
        }
        test.ask("dimension", 0, 100);
    }
}
