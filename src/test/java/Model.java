import java.util.ArrayList;
import java.util.Arrays;
import java.util.HashMap;
import java.util.List;
import java.util.Map;

/**
 * The document told a second time, as plainly as can be: every turning is a list, every day is
 * lived through for all people and facts at once. Slow, and written apart from the class.
 */
final class Model {
    static final int NONE = -1;

    final List<String> names = new ArrayList<>();
    final List<Boolean> alone = new ArrayList<>();
    final Map<Integer, Integer> toldDreams = new HashMap<>();
    final List<int[]> facts = new ArrayList<>();
    final List<int[]> talks = new ArrayList<>();
    final List<int[]> naps = new ArrayList<>();
    final List<int[]> dulls = new ArrayList<>();
    final List<int[]> wishes = new ArrayList<>();
    final Map<Integer, Integer> trades = new HashMap<>();
    Integer law;
    Integer deep;
    Integer year;
    int clauses;
    int faultKind;
    int faultPlace = NONE;
    List<int[]> turnings = new ArrayList<>();

    // ---- reading

    /** One token: its kind w, n, ;, e (the end) or ? (none), its place and its text. */
    private record Token(char kind, int place, String text) { }

    private static List<Token> tokens(String text) {
        List<Token> list = new ArrayList<>();
        int i = 0;
        while (i < text.length()) {
            char ch = text.charAt(i);
            if (ch == ' ' || ch == '\n') {
                i++;
                continue;
            }
            int j = i + 1;
            char kind = ch == ';' ? ';' : '?';
            if (ch >= 'a' && ch <= 'z') {
                while (j < text.length() && text.charAt(j) >= 'a' && text.charAt(j) <= 'z') {
                    j++;
                }
                kind = j - i > 8 ? '?' : 'w';
            } else if (ch >= '0' && ch <= '9') {
                while (j < text.length() && text.charAt(j) >= '0' && text.charAt(j) <= '9') {
                    j++;
                }
                kind = j - i > 4 ? '?' : 'n';
            }
            list.add(new Token(kind, i, text.substring(i, j)));
            i = j;
        }
        list.add(new Token('e', text.length(), ""));
        return list;
    }

    private static final Map<String, String> SHAPES = Map.ofEntries(
        Map.entry("dreams", "ww;"), Map.entry("fact", "wn;"), Map.entry("talk", "wwn;"),
        Map.entry("nap", "wn;"), Map.entry("dull", "wnn;"), Map.entry("want", "wnn;"),
        Map.entry("hide", "wnn;"), Map.entry("trade", "wn;"), Map.entry("law", "n;"),
        Map.entry("deep", "n;"), Map.entry("year", "n;"), Map.entry("person", "w;"));

    static Model read(String text) {
        Model m = new Model();
        List<Token> list = tokens(text);
        int at = 0;
        while (list.get(at).kind != 'e') {
            Token head = list.get(at++);
            String shape = head.kind == 'w' ? SHAPES.get(head.text) : null;
            if (shape == null) {
                return m.fail(1, head);
            }
            int early = m.keywordFault(head.text);
            if (early != 0) {
                return m.fail(early, head);
            }
            List<Integer> parts = new ArrayList<>();
            String name = "";
            boolean isAlone = false;
            for (int k = 0; k < shape.length(); k++) {
                Token t = list.get(at++);
                if (head.text.equals("person") && k == 1 && t.text.equals("alone")) {
                    isAlone = true;
                    t = list.get(at++);
                }
                if (t.kind != shape.charAt(k)) {
                    return m.fail(1, t);
                }
                int fault = m.partFault(head.text, k, t, parts);
                if (fault != 0) {
                    return m.fail(fault, t);
                }
                if (t.kind == 'w' && head.text.equals("person")) {
                    name = t.text;
                }
                parts.add(t.kind == 'n' ? Integer.parseInt(t.text) : m.names.indexOf(t.text));
            }
            m.add(head.text, name, isAlone, parts);
            m.clauses++;
        }
        m.findTurnings();
        return m.turnings.isEmpty() ? m.fail(4, list.get(at)) : m;
    }

    private Model fail(int kind, Token t) {
        faultKind = kind;
        faultPlace = t.place;
        return this;
    }

    private int keywordFault(String word) {
        switch (word) {
            case "law": return law != null ? 3 : 0;
            case "deep": return deep != null ? 3 : 0;
            case "year": return year != null ? 3 : 0;
            case "person": return names.size() == 8 ? 4 : 0;
            case "fact": return facts.size() == 12 ? 4 : 0;
            case "talk": return talks.size() == 8 ? 4 : 0;
            case "nap": return naps.size() == 8 ? 4 : 0;
            case "dull": return dulls.size() == 8 ? 4 : 0;
            case "want":
            case "hide": return wishes.size() == 8 ? 4 : 0;
            default: return 0;
        }
    }

    private int partFault(String word, int k, Token t, List<Integer> parts) {
        if (t.kind == ';') {
            return 0;
        }
        if (t.kind == 'n') {
            int n = Integer.parseInt(t.text);
            int[] bounds = bounds(word, k, parts);
            return n < bounds[0] || n > bounds[1] ? 2 : 0;
        }
        int p = names.indexOf(t.text);
        if (word.equals("person")) {
            return p >= 0 ? 3 : 0;
        }
        if (p < 0) {
            return 5;
        }
        switch (word) {
            case "dreams":
                if (alone.get(p)) {
                    return 5;
                }
                boolean isTwice = k == 0 ? toldDreams.containsKey(p)
                    : toldDreams.containsValue(p) || parts.get(0) == p;
                return isTwice ? 3 : 0;
            case "talk":
                return k == 1 && parts.get(0) == p ? 3 : 0;
            case "trade":
                return trades.containsKey(p) ? 3 : 0;
            default:
                return 0;
        }
    }

    private static int[] bounds(String word, int k, List<Integer> parts) {
        switch (word) {
            case "talk": return new int[] {1, 28};
            case "year": return new int[] {1, 28};
            case "law":
            case "deep": return new int[] {0, 4095};
            case "trade": return new int[] {0, 99};
            case "dull": return new int[] {k == 2 ? parts.get(1) : 0, 27};
            case "want":
            case "hide": return new int[] {0, k == 1 ? 11 : 27};
            default: return new int[] {0, 27};
        }
    }

    private void add(String word, String name, boolean isAlone, List<Integer> p) {
        switch (word) {
            case "person":
                names.add(name);
                alone.add(isAlone);
                break;
            case "dreams": toldDreams.put(p.get(0), p.get(1)); break;
            case "fact": facts.add(new int[] {p.get(0), p.get(1)}); break;
            case "talk": talks.add(new int[] {p.get(0), p.get(1), p.get(2)}); break;
            case "nap": naps.add(new int[] {p.get(0), p.get(1)}); break;
            case "dull": dulls.add(new int[] {p.get(0), p.get(1), p.get(2)}); break;
            case "want": wishes.add(new int[] {1, p.get(0), p.get(1), p.get(2)}); break;
            case "hide": wishes.add(new int[] {0, p.get(0), p.get(1), p.get(2)}); break;
            case "trade": trades.put(p.get(0), p.get(1)); break;
            case "law": law = p.get(0); break;
            case "deep": deep = p.get(0); break;
            default: year = p.get(0); break;
        }
    }

    // ---- turnings

    int people() {
        return names.size();
    }

    private void findTurnings() {
        int[] row = new int[people()];
        choose(0, row);
    }

    private void choose(int p, int[] row) {
        if (p == row.length) {
            turnings.add(row.clone());
            return;
        }
        if (alone.get(p)) {
            row[p] = NONE;
            choose(p + 1, row);
            return;
        }
        for (int q = 0; q < row.length; q++) {
            boolean isFree = q != p && !alone.get(q);
            for (int i = 0; i < p; i++) {
                isFree &= row[i] != q;
            }
            if (isFree && toldDreams.getOrDefault(p, q) == q) {
                row[p] = q;
                choose(p + 1, row);
            }
        }
    }

    int numberOf(int[] row) {
        for (int i = 0; i < turnings.size(); i++) {
            if (Arrays.equals(turnings.get(i), row)) {
                return i;
            }
        }
        return NONE;
    }

    // ---- days

    boolean isDull(int person, int day, int more) {
        boolean is = (more >> person & 1) != 0;
        for (int[] d : dulls) {
            is |= d[0] == person && d[1] <= day && day <= d[2];
        }
        return is;
    }

    /** What is known ahead of and behind each night, and how each thing came. */
    final class Life {
        final boolean[][][] ahead = new boolean[28][][];
        final boolean[][][] behind = new boolean[28][][];
        final int[][][] coming = new int[people()][facts.size()][];
        boolean[][] know = new boolean[people()][facts.size()];

        private void learn(int day, int who, int fact, int way, int from) {
            if (!know[who][fact]) {
                know[who][fact] = true;
                if (coming[who][fact] == null) {
                    coming[who][fact] = new int[] {day, way, from};
                }
            }
        }

        void live(int day, int[] row, int ways, int more) {
            for (int f = 0; f < facts.size(); f++) {
                if (facts.get(f)[1] == day) {
                    learn(day, facts.get(f)[0], f, 0, NONE);
                }
            }
            for (int[] nap : naps) {
                if ((ways & 4) != 0 && nap[1] == day) {
                    dream(day, nap[0], row, know, 1, more);
                }
            }
            for (int[] talk : talks) {
                if ((ways & 2) != 0 && day % talk[2] == 0) {
                    for (int f = 0; f < facts.size(); f++) {
                        if (((law == null ? 0 : law) >> f & 1) == 0 && (know[talk[0]][f] || know[talk[1]][f])) {
                            learn(day, talk[0], f, 2, talk[1]);
                            learn(day, talk[1], f, 2, talk[0]);
                        }
                    }
                }
            }
            ahead[day] = copy(know);
            for (int p = 0; p < people() && (ways & 1) != 0; p++) {
                dream(day, p, row, ahead[day], 3, more);
            }
            behind[day] = copy(know);
        }

        private void dream(int day, int p, int[] row, boolean[][] seen, int way, int more) {
            if (row[p] == NONE || isDull(row[p], day, more)) {
                return;
            }
            for (int f = 0; f < facts.size(); f++) {
                if (seen[row[p]][f] && ((deep == null ? 0 : deep) >> f & 1) == 0) {
                    learn(day, p, f, way, row[p]);
                }
            }
        }
    }

    private static boolean[][] copy(boolean[][] from) {
        boolean[][] to = new boolean[from.length][];
        for (int i = 0; i < from.length; i++) {
            to[i] = from[i].clone();
        }
        return to;
    }

    Life life(int[] row, int ways, int more) {
        Life life = new Life();
        for (int day = 0; day < 28; day++) {
            life.live(day, row, ways, more);
        }
        return life;
    }

    int dayOfAll(Life life, int fact) {
        for (int day = 0; day < 28; day++) {
            boolean is = true;
            for (int p = 0; p < people(); p++) {
                is &= life.behind[day][p][fact];
            }
            if (is) {
                return day;
            }
        }
        return NONE;
    }

    int met(int[] row, int set) {
        Life life = life(row, 7, set);
        int bits = 0;
        for (int i = 0; i < wishes.size(); i++) {
            int[] w = wishes.get(i);
            boolean knows = w[2] < facts.size() && life.behind[w[3]][w[1]][w[2]];
            if (knows == (w[0] == 1)) {
                bits |= 1 << i;
            }
        }
        return bits;
    }

    /** Sets of people, the fewest first, of as many the least bits first. */
    List<Integer> sets() {
        List<Integer> list = new ArrayList<>();
        for (int set = 0; set < 1 << people(); set++) {
            list.add(set);
        }
        list.sort((a, b) -> Integer.bitCount(a) != Integer.bitCount(b)
            ? Integer.bitCount(a) - Integer.bitCount(b) : a - b);
        return list;
    }

    int plan(int[] row) {
        int best = 0;
        int most = -1;
        for (int set : sets()) {
            int many = Integer.bitCount(met(row, set));
            if (many > most) {
                most = many;
                best = set;
            }
        }
        return best;
    }

    int kept(int[] row, int person, int fact, int day) {
        for (int set : sets()) {
            if (!life(row, 7, set).behind[day][person][fact]) {
                return set;
            }
        }
        return NONE;
    }

    /** Day by day: who makes the sign, who has it; the day and the chain, or null. */
    List<Integer> sign(int[] row, int from, int to, int day) {
        boolean[] has = new boolean[people()];
        boolean[] made = new boolean[people()];
        List<Integer> chain = new ArrayList<>();
        has[from] = true;
        chain.add(from);
        for (int d = day; d < 28; d++) {
            boolean[] able = has.clone();
            for (int p = 0; p < people(); p++) {
                if (able[p] && !made[p] && !isDull(p, d, 0)) {
                    made[p] = true;
                    for (int q = 0; q < people(); q++) {
                        if (row[q] == p && !has[q]) {
                            has[q] = true;
                            chain.add(q);
                            if (q == to) {
                                chain.add(0, d);
                                return chain;
                            }
                        }
                    }
                }
            }
        }
        return null;
    }

    int[] skills(int[] row, int lastDay) {
        int[] has = new int[people()];
        for (int day = 0; day <= lastDay; day++) {
            for (int p = 0; p < people(); p++) {
                has[p] = Math.min(9999, has[p] + trades.getOrDefault(p, 0));
            }
            int[] had = has.clone();
            for (int p = 0; p < people(); p++) {
                if (row[p] != NONE && !isDull(row[p], day, 0) && had[row[p]] > had[p]) {
                    has[p] = Math.min(9999, had[p] + (had[row[p]] - had[p]) / 4);
                }
            }
        }
        return has;
    }
}
