import java.nio.charset.StandardCharsets;

/** What the tests share: answers compared with those that are due, and texts put on the tape. */
final class Check {
    private int wrong;
    private int right;

    void due(String call, long got, long want) {
        if (got == want) {
            right++;
            return;
        }
        wrong++;
        if (wrong <= 40) {
            System.out.println("  " + call + " answered " + got + ", due is " + want);
        }
    }

    void end(String name) {
        System.out.println("  " + name + ": " + right + " answers as due, " + wrong + " not");
        System.exit(wrong == 0 && right > 0 ? 0 : 1);
    }

    /** Puts a text, and nothing else, on the tape. */
    static void tape(WhoseDay x, String text) {
        byte[] bytes = text.getBytes(StandardCharsets.ISO_8859_1);
        x.end(0);
        for (int i = 0; i < bytes.length; i += 20) {
            x.feed(four(bytes, i), four(bytes, i + 4), four(bytes, i + 8), four(bytes, i + 12),
                four(bytes, i + 16));
        }
        if (x.end(bytes.length) != bytes.length) {
            throw new IllegalStateException("the tape has no room for: " + text);
        }
    }

    private static int four(byte[] bytes, int from) {
        int value = 0;
        for (int i = from; i < from + 4; i++) {
            value = value << 8 | (i < bytes.length ? bytes[i] & 255 : 32);
        }
        return value;
    }

    static int town(WhoseDay x, String text) {
        tape(x, text);
        return x.town();
    }

    /** A new object with a town that has no fault. */
    static WhoseDay in(String text) {
        WhoseDay x = new WhoseDay();
        if (town(x, text) < 0) {
            throw new IllegalStateException("fault " + x.fault(0) + " at " + x.fault(1) + ": " + text);
        }
        return x;
    }

    static int number(WhoseDay x, String row) {
        tape(x, row);
        return x.number();
    }

    static int judge(WhoseDay x, String book) {
        tape(x, book);
        return x.judge();
    }

    static long rings(WhoseDay x, String lengths) {
        tape(x, lengths);
        return x.rings();
    }
}
