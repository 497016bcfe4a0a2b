import java.nio.charset.StandardCharsets;
import java.util.ArrayList;
import java.util.List;

/** Counts answers that are not as due, and feeds texts to an object. */
final class Due {
    private int asked;
    private int wrong;

    void due(String call, int got, int want) {
        asked++;
        if (got != want) {
            wrong++;
            if (wrong <= 50) {
                System.out.println(call + " answered " + got + ", due is " + want);
            }
        }
    }

    void holds(String what, boolean is) {
        due(what, is ? 1 : 0, 1);
    }

    /** Ends the test: exit code 1 if any answer was wrong. */
    void close(String name) {
        System.out.println(name + ": " + asked + " answers, " + wrong + " not as due");
        if (wrong != 0 || asked == 0) {
            System.exit(1);
        }
    }

    static byte[] bytes(String text) {
        return text.getBytes(StandardCharsets.ISO_8859_1);
    }

    /** The number that carries four bytes from a place on, zeros behind the end. */
    static int four(byte[] text, int from) {
        int number = 0;
        for (int i = from; i < from + 4; i++) {
            number = number << 8 | (i < text.length ? text[i] & 255 : 0);
        }
        return number;
    }

    static void feed(OrderGauge gauge, String text) {
        byte[] all = bytes(text);
        for (int i = 0; i < all.length; i += 20) {
            gauge.feed(four(all, i), four(all, i + 4), four(all, i + 8), four(all, i + 12), four(all, i + 16));
        }
        gauge.end(all.length);
    }

    static int tell(OrderGauge gauge, int slot, String text) {
        gauge.end(0);
        feed(gauge, text);
        return gauge.told(slot);
    }

    static OrderGauge with(String text) {
        OrderGauge gauge = new OrderGauge();
        int answer = tell(gauge, 0, text);
        if (answer < 0) {
            throw new IllegalStateException("not told: " + text);
        }
        return gauge;
    }

    /** A text without rows, its things named anew. */
    static String renamed(String text, int[] names) {
        StringBuilder other = new StringBuilder(text.substring(0, 7));
        for (char sign : text.substring(7).toCharArray()) {
            other.append(sign >= '0' && sign <= '7' ? (char) ('0' + names[sign - '0']) : sign);
        }
        return other.toString();
    }

    /** All ways to name up to five things; of more things those that go round, forward and backward. */
    static List<int[]> names(int things) {
        List<int[]> ways = new ArrayList<>();
        if (things <= 5) {
            nameOn(new int[things], 0, 0, ways);
            return ways;
        }
        for (int way = 0; way < 2 * things; way++) {
            int[] names = new int[things];
            for (int thing = 0; thing < things; thing++) {
                names[thing] = way < things ? (thing + way) % things : (2 * things - 1 - thing + way) % things;
            }
            ways.add(names);
        }
        return ways;
    }

    private static void nameOn(int[] names, int thing, int taken, List<int[]> ways) {
        if (thing == names.length) {
            ways.add(names.clone());
        }
        for (int name = 0; thing < names.length && name < names.length; name++) {
            if ((taken >> name & 1) == 0) {
                names[thing] = name;
                nameOn(names, thing + 1, taken | 1 << name, ways);
            }
        }
    }

    static String out(OrderGauge gauge) {
        StringBuilder text = new StringBuilder();
        for (int i = 0; gauge.octet(i) >= 0; i++) {
            text.append((char) gauge.octet(i));
        }
        return text.toString();
    }
}
