import java.nio.charset.StandardCharsets;

/** What the tests share: answers compared with those that are due, and texts put on the tape. */
final class Check {
    /** Numbers that are never a person, fact, day, set or the like. */
    static final int[] FAR = {Integer.MIN_VALUE, -1000, 1000000, Integer.MAX_VALUE};

    private int wrong;
    private int right;
    private String sentence = "";
    private int ofSentence;

    /** The words of the document by which the next answers are due. */
    void says(String words) {
        endSentence();
        sentence = words;
        ofSentence = 0;
    }

    private void endSentence() {
        if (!sentence.isEmpty() && ofSentence == 0) {
            wrong++;
            System.out.println("  no answer is tested for: " + sentence);
        }
    }

    void due(String call, long got, long want) {
        ofSentence++;
        if (got == want) {
            right++;
            return;
        }
        wrong++;
        if (wrong <= 40) {
            System.out.println("  " + call + " answered " + got + ", due is " + want
                + (sentence.isEmpty() ? "" : ", by: " + sentence));
        }
    }

    void end(String name) {
        endSentence();
        System.out.println("  " + name + ": " + right + " answers as due, " + wrong + " not");
        System.exit(wrong == 0 && right > 0 ? 0 : 1);
    }

    /** A text that is a town. */
    void fine(String text, int clauses) {
        WhoseDay x = new WhoseDay();
        due("town() of " + text, town(x, text), clauses);
        due("fault(0) of " + text, x.fault(0), 0);
        due("fault(1) of " + text, x.fault(1), WhoseDay.NONE);
        due("count(0) of " + text, x.count(0), clauses);
    }

    /** A text that has a fault. */
    void faulty(String text, int kind, int place) {
        WhoseDay x = new WhoseDay();
        due("town() of " + text, town(x, text), WhoseDay.NONE);
        due("fault(0) of " + text, x.fault(0), kind);
        due("fault(1) of " + text, x.fault(1), place);
        due("count(0) of " + text, x.count(0), 0);
    }

    /** So many people, named a, b and on. */
    static String people(int n) {
        StringBuilder b = new StringBuilder();
        for (int i = 0; i < n; i++) {
            b.append("person ").append((char) ('a' + i)).append(";");
        }
        return b.toString();
    }

    /** Puts a text, and nothing else, on the tape. */
    static void tape(WhoseDay x, String text) {
        byte[] bytes = text.getBytes(StandardCharsets.ISO_8859_1);
        x.end(0);
        for (int i = 0; i < bytes.length; i += 20) {
            x.feed(four(bytes, i), four(bytes, i + 4), four(bytes, i + 8), four(bytes, i + 12),
                four(bytes, i + 16));
        }
        if (x.end(bytes.length) != bytes.length) {
            throw new IllegalStateException("the tape has no room for: " + text);
        }
    }

    private static int four(byte[] bytes, int from) {
        int value = 0;
        for (int i = from; i < from + 4; i++) {
            value = value << 8 | (i < bytes.length ? bytes[i] & 255 : 32);
        }
        return value;
    }

    static int town(WhoseDay x, String text) {
        tape(x, text);
        return x.town();
    }

    /** A new object with a town that has no fault. */
    static WhoseDay in(String text) {
        WhoseDay x = new WhoseDay();
        if (town(x, text) < 0) {
            throw new IllegalStateException("fault " + x.fault(0) + " at " + x.fault(1) + ": " + text);
        }
        return x;
    }

    static int number(WhoseDay x, String row) {
        tape(x, row);
        return x.number();
    }

    /** Makes the row THE TURNING. */
    static void turn(WhoseDay x, String row) {
        if (x.turn(number(x, row)) != 1) {
            throw new IllegalStateException("no turning: " + row);
        }
    }

    /** Whom each dreams by THE TURNING, as number() reads it. */
    static String row(WhoseDay x) {
        StringBuilder b = new StringBuilder();
        for (int p = 0; p < x.told(0); p++) {
            int dreamt = x.dreams(p);
            b.append(dreamt == WhoseDay.NONE ? "o" : String.valueOf(dreamt));
        }
        return b.toString();
    }

    void dueRow(String call, String got, String want) {
        due(call + ", row " + got + " against " + want, got.equals(want) ? 1 : 0, 1);
    }

    static int judge(WhoseDay x, String book) {
        tape(x, book);
        return x.judge();
    }

    static long rings(WhoseDay x, String lengths) {
        tape(x, lengths);
        return x.rings();
    }
}
