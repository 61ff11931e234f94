import java.lang.reflect.InvocationTargetException;
import java.lang.reflect.Method;
import java.util.ArrayList;
import java.util.Arrays;
import java.util.List;
import java.util.Map;
import java.util.Random;

/**
 * Calls in any row, up to the 512 that an object is used for, beside Plain with the same calls: no
 * call shows what another one has left, unless the document says so.
 */
public final class SequenceTest {
    private static final int MOST_CALLS = 512;
    /** By call, what its numbers are: see number(). */
    private static final Map<String, String> CALLS = Map.ofEntries(
        Map.entry("end", "e"), Map.entry("fault", "x"), Map.entry("told", "o"), Map.entry("turnings", ""),
        Map.entry("turn", "n"), Map.entry("dreams", "p"), Map.entry("knows", "pdw"), Map.entry("comes", "pfwx"),
        Map.entry("all", "fw"), Map.entry("act", "sdpfb"), Map.entry("right", "skb"), Map.entry("fit", "sx"),
        Map.entry("sure", "ps"), Map.entry("ask", "x"), Map.entry("knowers", "fdsb"), Map.entry("wishes", ""),
        Map.entry("met", "t"), Map.entry("plan", ""), Map.entry("said", "ppd"), Map.entry("over", "ppdx"),
        Map.entry("skill", "pd"), Map.entry("ring", "p"), Map.entry("marry", "pp"), Map.entry("kept", "pfd"),
        Map.entry("lot", "fdbB"), Map.entry("lotDay", "fB"), Map.entry("parts", "xx"), Map.entry("begin", "z"),
        Map.entry("go", "y"), Map.entry("now", "pb"), Map.entry("keep", "x"), Map.entry("take", "x"),
        Map.entry("count", "c"), Map.entry("town", "T"), Map.entry("number", "N"), Map.entry("judge", "J"),
        Map.entry("rings", "R"), Map.entry("feed", "F"));

    private static final String[] FAMILIES = {"begin go now go now keep take", "act right fit sure ask knowers",
        "lot lotDay knowers ask fit act", "turn dreams said over ring marry", "met plan kept knows comes all turn",
        "feed end count number judge rings"};

    private final Check c;
    private final Random random;
    private final WhoseDay x = new WhoseDay();
    private final Plain plain = new Plain();
    private final List<String> names = new ArrayList<>(CALLS.keySet());
    private final StringBuilder log = new StringBuilder();
    private int step;
    private int calls;
    private boolean isWrong;

    private SequenceTest(Check c, long seed) {
        this.c = c;
        this.random = new Random(seed);
        names.sort(String::compareTo);
    }

    public static void main(String[] args) throws ReflectiveOperationException {
        Check c = new Check();
        int objects = args.length > 1 ? Integer.parseInt(args[1]) : 250;
        for (int i = 0; i < objects; i++) {
            new SequenceTest(c, i).oneObject();
        }
        c.end("SequenceTest");
    }

    private int below(int n) {
        return random.nextInt(n);
    }

    private void oneObject() throws ReflectiveOperationException {
        // some calls are dear to one object, so that they come close together
        List<String> dear = new ArrayList<>(List.of(FAMILIES[below(FAMILIES.length)].split(" ")));
        for (int i = 0; i < 4; i++) {
            dear.add(names.get(below(names.size())));
        }
        while (calls < MOST_CALLS - 60 && !isWrong) {
            int kind = below(40);
            call(kind == 0 ? "town" : kind < 28 ? dear.get(below(dear.size())) : names.get(below(names.size())));
        }
    }

    private void call(String name) throws ReflectiveOperationException {
        String kinds = CALLS.get(name);
        switch (kinds) {
            case "F":
                feed(below(3) == 0 ? "person a;person b;fact a 1;nap b 2;" : "2 0 1; 3 3 ;");
                return;
            case "T":
                // now and then what happens to be on the tape is read
                if (below(8) > 0) {
                    fresh(townText());
                }
                break;
            case "N":
                fresh(rowText());
                break;
            case "J":
                fresh(bookText());
                break;
            case "R":
                fresh(ringText());
                break;
            default:
        }
        boolean isRead = name.equals("town") || kinds.equals("N") || kinds.equals("J") || kinds.equals("R");
        Object[] given = new Object[isRead ? 0 : kinds.length()];
        for (int i = 0; i < given.length; i++) {
            given[i] = kinds.charAt(i) == 'B' ? (Object) random.nextBoolean() : (Object) number(kinds.charAt(i));
        }
        compare(name, given);
        if (name.equals("town")) {
            step = 0;
        }
    }

    private void compare(String name, Object[] given) throws ReflectiveOperationException {
        calls++;
        log.append(name).append(Arrays.toString(given)).append(" ");
        long got = answer(x, name, given);
        long want = answer(plain, name, given);
        if (got != want) {
            isWrong = true;
            String all = log.toString();
            c.due(all.substring(Math.max(0, all.length() - 3000)), got, want);
        } else {
            c.due(name, got, want);
        }
    }

    private static long answer(Object of, String name, Object[] given)
        throws IllegalAccessException, InvocationTargetException {
        for (Method m : of.getClass().getDeclaredMethods()) {
            if (m.getName().equals(name)) {
                return ((Number) m.invoke(of, given)).longValue();
            }
        }
        throw new IllegalStateException("no such call: " + name);
    }

    /** A number of a kind, mostly one that can be. */
    private int number(char kind) {
        if (below(40) == 0) {
            return Check.FAR[below(Check.FAR.length)];
        }
        switch (kind) {
            case 'p': return below(12) == 0 ? below(11) - 1 : below(Math.max(1, x.told(0)));
            case 'f': return below(12) == 0 ? below(14) - 1 : below(Math.max(1, x.told(1)));
            case 'd': return below(15) == 0 ? below(30) - 1 : below(below(2) == 0 ? 28 : 8);
            case 'w': return below(10) == 0 ? below(10) - 1 : below(2) == 0 ? 7 : below(8);
            case 'x': return below(8) == 0 ? below(22) - 1 : below(3);
            case 'b': return below(15) == 0 ? below(4) - 1 : below(2);
            case 's': return stepNumber();
            case 'k': return below(8) == 0 ? below(18) - 1 : below(Math.max(1, x.count(1)));
            case 't': return below(8) == 0 ? below(300) - 1 : below(1 << x.told(0));
            case 'n': return below(8) == 0 ? below(300) - 1 : below(x.turnings());
            case 'y': return below(10) == 0 ? 195 + below(10) : below(30);
            case 'z': return below(4) == 0 ? below(3) - 1 : random.nextInt() & Integer.MAX_VALUE;
            case 'o': return below(70) - 2;
            case 'e': return below(2) == 0 ? 0 : below(100) - 1;
            default: return below(7) - 1;
        }
    }

    private int stepNumber() {
        int kind = below(20);
        if (kind == 0) {
            return below(4) == 0 ? 998 + below(4) : below(step + 3) - 1;
        }
        step += kind < 3 ? 1 : 0;
        return step;
    }

    /** The text, and nothing else, on the tapes of both. */
    private void fresh(String text) throws ReflectiveOperationException {
        compare("end", new Object[] {0});
        for (int i = 0; i < text.length(); i += 20) {
            feed(text.substring(i, Math.min(i + 20, text.length())));
        }
        compare("end", new Object[] {text.length()});
    }

    private void feed(String text) {
        int[] five = new int[5];
        for (int i = 0; i < 20; i++) {
            five[i / 4] = five[i / 4] << 8 | (i < text.length() ? text.charAt(i) : ' ');
        }
        calls++;
        log.append("feed ").append(text).append(" ");
        c.due("feed", x.feed(five[0], five[1], five[2], five[3], five[4]), plain.feed(five));
    }

    private String townText() {
        int people = below(10) == 0 ? below(3) : 2 + below(4);
        StringBuilder b = new StringBuilder();
        for (int p = 0; p < people; p++) {
            b.append("person ").append(name(p)).append(below(9) == 0 ? " alone;" : ";");
        }
        int more = people == 0 ? below(3) : below(16);
        for (int i = 0; i < more; i++) {
            b.append(clause(people));
        }
        if (below(12) == 0 && b.length() > 0) {
            b.setCharAt(below(b.length()), ";a9 \n?".charAt(below(6)));
        }
        return b.toString();
    }

    private static String name(int p) {
        return String.valueOf((char) ('a' + p));
    }

    private String clause(int people) {
        String who = name(below(Math.max(1, people)));
        String other = name(below(Math.max(1, people)));
        switch (people == 0 ? 9 + below(3) : below(16)) {
            case 0: return "dreams " + who + " " + other + ";";
            case 1: return "talk " + who + " " + other + " " + (1 + below(9)) + ";";
            case 2: return "nap " + who + " " + below(8) + ";";
            case 3:
                int first = below(8);
                return "dull " + who + " " + first + " " + (first + below(6)) + ";";
            case 4: return "want " + who + " " + below(4) + " " + below(12) + ";";
            case 5:
            case 6: return "hide " + who + " " + below(4) + " " + below(12) + ";";
            case 7:
            case 8: return "trade " + who + " " + below(100) + ";";
            case 9: return "law " + below(16) + ";";
            case 10: return "deep " + below(16) + ";";
            case 11: return "year " + (1 + below(9)) + ";";
            default: return "fact " + who + " " + below(6) + ";";
        }
    }

    private String rowText() {
        int people = x.told(0);
        StringBuilder b = new StringBuilder();
        for (int p = 0; p < people; p++) {
            b.append(x.told(10 + p) == 1 ? "o" : String.valueOf(below(people)));
        }
        // whom each dreams by THE TURNING, with two of them changed about now and then
        if (below(2) == 0) {
            b = new StringBuilder(Check.row(x));
            for (int i = below(3); i > 0 && people > 0; i--) {
                int p = below(people);
                int q = below(people);
                char kept = b.charAt(p);
                b.setCharAt(p, b.charAt(q));
                b.setCharAt(q, kept);
            }
        }
        return below(12) == 0 ? b + " " : b.toString();
    }

    private String bookText() {
        StringBuilder b = new StringBuilder();
        int rows = below(5);
        for (int i = 0; i < rows; i++) {
            b.append(10 + below(below(12) == 0 ? 20 : 18)).append(" ");
            b.append(below(Math.max(1, x.told(0) + (below(9) == 0 ? 4 : 0)))).append(" ");
            b.append(below(Math.max(1, x.told(1) + (below(9) == 0 ? 3 : 0)))).append(below(20) == 0 ? " ; ;" : ";");
        }
        return b.toString();
    }

    private String ringText() {
        StringBuilder b = new StringBuilder();
        int rings = below(8);
        for (int i = 0; i < rings; i++) {
            b.append(2 + below(below(5) == 0 ? 18 : 4)).append(below(4) == 0 ? "\n" : " ");
        }
        return below(15) == 0 ? b + ";" : b.toString();
    }
}
