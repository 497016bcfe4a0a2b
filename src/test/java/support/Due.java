import java.nio.charset.StandardCharsets;

/** Counts answers that are not as due, and feeds texts to an object. */
final class Due {
    private int asked;
    private int wrong;

    void due(String call, int got, int want) {
        asked++;
        if (got != want) {
            wrong++;
            if (wrong <= 50) {
                System.out.println(call + " answered " + got + ", due is " + want);
            }
        }
    }

    void holds(String what, boolean is) {
        due(what, is ? 1 : 0, 1);
    }

    /** Ends the test: exit code 1 if any answer was wrong. */
    void close(String name) {
        System.out.println(name + ": " + asked + " answers, " + wrong + " not as due");
        if (wrong != 0 || asked == 0) {
            System.exit(1);
        }
    }

    static byte[] bytes(String text) {
        return text.getBytes(StandardCharsets.ISO_8859_1);
    }

    /** The number that carries four bytes from a place on, zeros behind the end. */
    static int four(byte[] text, int from) {
        int number = 0;
        for (int i = from; i < from + 4; i++) {
            number = number << 8 | (i < text.length ? text[i] & 255 : 0);
        }
        return number;
    }

    static void feed(OrderGauge gauge, String text) {
        byte[] all = bytes(text);
        for (int i = 0; i < all.length; i += 20) {
            gauge.feed(four(all, i), four(all, i + 4), four(all, i + 8), four(all, i + 12), four(all, i + 16));
        }
        gauge.end(all.length);
    }

    static int tell(OrderGauge gauge, int slot, String text) {
        gauge.end(0);
        feed(gauge, text);
        return gauge.told(slot);
    }

    static OrderGauge with(String text) {
        OrderGauge gauge = new OrderGauge();
        int answer = tell(gauge, 0, text);
        if (answer < 0) {
            throw new IllegalStateException("not told: " + text);
        }
        return gauge;
    }

    static String out(OrderGauge gauge) {
        StringBuilder text = new StringBuilder();
        for (int i = 0; gauge.octet(i) >= 0; i++) {
            text.append((char) gauge.octet(i));
        }
        return text.toString();
    }
}
