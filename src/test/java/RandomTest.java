import java.util.ArrayList;
import java.util.List;
import java.util.Random;

/** Towns by a fixed seed: what the class answers, and what the plain model says is due. */
public final class RandomTest {
    private final Check c;
    private final Random random;

    private RandomTest(Check c, long seed) {
        this.c = c;
        this.random = new Random(seed);
    }

    public static void main(String[] args) {
        Check c = new Check();
        WhoseDay x = new WhoseDay();
        for (int i = 0; i < 700; i++) {
            // every third object is used for another town, so that nothing of the former may show
            x = i % 3 == 0 ? x : new WhoseDay();
            new RandomTest(c, i).oneTown(x, i % 100 == 98 ? 8 : i % 25 == 23 ? 7 : 2 + i % 5);
        }
        for (int i = 0; i < 6000; i++) {
            new RandomTest(c, 1000000 + i).oneSpoiltText();
        }
        c.end("RandomTest");
    }

    private int below(int n) {
        return random.nextInt(n);
    }

    private String name(int people) {
        return String.valueOf((char) ('a' + below(people)));
    }

    /** A town that mostly has no fault. */
    private String townText(int people) {
        StringBuilder b = new StringBuilder();
        for (int p = 0; p < people; p++) {
            b.append("person ").append((char) ('a' + p)).append(below(7) == 0 ? " alone;" : ";");
        }
        int more = below(22);
        for (int i = 0; i < more; i++) {
            b.append(clause(people)).append(below(3) == 0 ? "\n" : " ");
        }
        return b.toString();
    }

    private String clause(int people) {
        switch (below(13)) {
            case 0: return "dreams " + name(people) + " " + name(people) + ";";
            case 1:
            case 2:
            case 3: return "fact " + name(people) + " " + below(10) + ";";
            case 4: return "talk " + name(people) + " " + name(people) + (1 + below(28)) + ";";
            case 5: return "nap " + name(people) + " " + below(12) + ";";
            case 6:
                int first = below(15);
                return "dull " + name(people) + first + " " + (first + below(13)) + ";";
            case 7: return "want " + name(people) + " " + below(4) + " " + below(20) + ";";
            case 8: return "hide " + name(people) + " " + below(4) + " " + below(20) + ";";
            case 9: return "trade " + name(people) + " " + below(100) + ";";
            case 10: return "law " + below(16) + ";";
            case 11: return "deep " + below(16) + ";";
            default: return "year " + (1 + below(28)) + ";";
        }
    }

    private void oneTown(WhoseDay x, int people) {
        String text = townText(people);
        Model m = Model.read(text);
        for (int i = 0; i < 400 && m.faultKind != 0; i++) {
            text = townText(people);
            m = Model.read(text);
        }
        c.due("town() of " + text, Check.town(x, text), m.faultKind == 0 ? m.clauses : -1);
        if (m.faultKind != 0) {
            c.due("fault(0) of " + text, x.fault(0), m.faultKind);
            c.due("fault(1) of " + text, x.fault(1), m.faultPlace);
            return;
        }
        compareTold(x, m, text);
        int number = below(m.turnings.size());
        c.due("turn(" + number + ") of " + text, x.turn(number), 1);
        int[] row = m.turnings.get(number);
        compareTurning(x, m, row, text);
        compareKnown(x, m, row, text);
        compareWishes(x, m, row, text);
        compareSigns(x, m, row, text);
        if (!m.facts.isEmpty()) {
            compareActs(x, m, text);
            compareLots(x, m, text);
        }
        compareRun(x, m, row, text);
    }

    private void compareTold(WhoseDay x, Model m, String text) {
        c.due("told(0) of " + text, x.told(0), m.people());
        c.due("told(1) of " + text, x.told(1), m.facts.size());
        c.due("told(2) of " + text, x.told(2), m.talks.size());
        c.due("told(3) of " + text, x.told(3), m.naps.size());
        c.due("told(4) of " + text, x.told(4), m.law == null ? 0 : m.law);
        c.due("told(5) of " + text, x.told(5), m.year == null ? 28 : m.year);
        c.due("wishes() of " + text, x.wishes(), m.wishes.size());
        for (int p = 0; p < 10; p++) {
            boolean is = p < m.people();
            c.due("told(10 + p) of " + text, x.told(10 + p), !is ? -1 : m.alone.get(p) ? 1 : 0);
            c.due("told(20 + p) of " + text, x.told(20 + p), m.toldDreams.getOrDefault(p, -1));
        }
        for (int f = 0; f < 14; f++) {
            boolean is = f < m.facts.size();
            c.due("told(30 + f) of " + text, x.told(30 + f), is ? m.facts.get(f)[0] : -1);
            c.due("told(50 + f) of " + text, x.told(50 + f), is ? m.facts.get(f)[1] : -1);
        }
        c.due("turnings() of " + text, x.turnings(), m.turnings.size());
    }

    private void compareTurning(WhoseDay x, Model m, int[] row, String text) {
        StringBuilder b = new StringBuilder();
        int rings = 0;
        boolean[] seen = new boolean[row.length];
        for (int p = 0; p < row.length; p++) {
            c.due("dreams(" + p + ") of " + text, x.dreams(p), row[p]);
            b.append(row[p] == -1 ? "o" : String.valueOf(row[p]));
            int length = 0;
            boolean isNew = row[p] != -1 && !seen[p];
            for (int q = p; row[p] != -1 && (q != p || length == 0); q = row[q]) {
                seen[q] = true;
                length++;
            }
            rings += isNew ? 1 : 0;
            c.due("ring(" + p + ") of " + text, x.ring(p), length);
        }
        c.due("ring(-1) of " + text, x.ring(-1), rings);
        c.due("number() of " + text, Check.number(x, b.toString()), m.numberOf(row));
        for (int i = 0; i < 10; i++) {
            int at = below(row.length);
            b.setCharAt(at, "01234567o".charAt(below(9)));
            int[] other = new int[row.length];
            for (int p = 0; p < row.length; p++) {
                other[p] = b.charAt(p) == 'o' ? -1 : b.charAt(p) - '0';
            }
            c.due("number() " + b + " of " + text, Check.number(x, b.toString()), m.numberOf(other));
        }
        for (int p = 0; p < row.length; p++) {
            for (int q = 0; q < row.length; q++) {
                int[] other = row.clone();
                other[p] = row[q];
                other[q] = row[p];
                boolean isRange = p == q || row[p] == -1 || row[q] == -1;
                c.due("marry(" + p + ", " + q + ") of " + text, x.marry(p, q), isRange ? -2 : m.numberOf(other));
            }
        }
    }

    private void compareKnown(WhoseDay x, Model m, int[] row, String text) {
        for (int ways = 0; ways < 8; ways++) {
            Model.Life life = m.life(row, ways, 0);
            for (int p = 0; p < m.people(); p++) {
                int day = below(28);
                int bits = 0;
                for (int f = 0; f < m.facts.size(); f++) {
                    bits |= life.behind[day][p][f] ? 1 << f : 0;
                    int[] coming = life.coming[p][f];
                    for (int what = 0; what < 3; what++) {
                        c.due("comes(" + p + ", " + f + ", " + ways + ", " + what + ") of " + text,
                            x.comes(p, f, ways, what), coming == null ? -1 : coming[what]);
                    }
                }
                c.due("knows(" + p + ", " + day + ", " + ways + ") of " + text, x.knows(p, day, ways), bits);
            }
            for (int f = 0; f < m.facts.size(); f++) {
                c.due("all(" + f + ", " + ways + ") of " + text, x.all(f, ways), m.dayOfAll(life, f));
            }
        }
        Model.Life life = m.life(row, 7, 0);
        StringBuilder book = new StringBuilder();
        int wrong = -1;
        int rows = below(8);
        for (int i = 0; i < rows; i++) {
            int day = 10 + below(18);
            int p = below(m.people());
            int f = below(Math.min(12, m.facts.size() + 1));
            book.append(day).append(" ").append(p).append("\n").append(f).append(" ;");
            boolean isRight = f < m.facts.size() && life.ahead[day][p][f];
            wrong = wrong < 0 && !isRight ? i : wrong;
        }
        c.due("judge() " + book + " of " + text, Check.judge(x, book.toString()), wrong < 0 ? rows : -1 - wrong);
    }

    private void compareWishes(WhoseDay x, Model m, int[] row, String text) {
        for (int i = 0; i < 4; i++) {
            int set = below(1 << m.people());
            c.due("met(" + set + ") of " + text, x.met(set), m.met(row, set));
        }
        if (m.people() <= 6) {
            c.due("plan() of " + text, x.plan(), m.plan(row));
            for (int i = 0; i < 3 && !m.facts.isEmpty(); i++) {
                int p = below(m.people());
                int f = below(m.facts.size());
                int day = below(28);
                c.due("kept(" + p + ", " + f + ", " + day + ") of " + text, x.kept(p, f, day), m.kept(row, p, f, day));
            }
        }
        for (int p = 0; p < m.people(); p++) {
            int day = below(28);
            c.due("skill(" + p + ", " + day + ") of " + text, x.skill(p, day), m.skills(row, day)[p]);
        }
    }

    private void compareSigns(WhoseDay x, Model m, int[] row, String text) {
        for (int from = 0; from < m.people(); from++) {
            for (int to = 0; to < m.people(); to++) {
                int day = below(28);
                String call = "(" + from + ", " + to + ", " + day + ") of " + text;
                List<Integer> sign = from == to ? null : m.sign(row, from, to, day);
                int none = from == to ? -4 : -1;
                c.due("said" + call, x.said(from, to, day), sign == null ? none : sign.get(0));
                int i = below(5);
                boolean is = sign != null && i + 1 < sign.size();
                c.due("over " + i + call, x.over(from, to, day, i), is ? sign.get(i + 1) : none);
            }
        }
    }

    private record Told(int step, int act, int knew) { }

    private void compareActs(WhoseDay x, Model m, String text) {
        List<Model.Life> lives = new ArrayList<>();
        for (int[] row : m.turnings) {
            lives.add(m.life(row, 7, 0));
        }
        Model.Life truth = lives.get(below(lives.size()));
        List<int[]> acts = new ArrayList<>();
        List<Told> told = new ArrayList<>();
        int step = 0;
        int count = 1 + below(5);
        for (int i = 0; i < count; i++) {
            step += below(3);
            if (!acts.isEmpty() && below(3) == 0) {
                int k = below(acts.size());
                int knew = below(2);
                told.add(new Told(step, k, knew));
                long often = told.stream().filter(t -> t.act == k).count() - 1;
                c.due("right of " + text, x.right(step, k, knew), often);
            } else {
                int[] act = {below(28), below(m.people()), below(m.facts.size())};
                int knew = truth.ahead[act[0]][act[1]][act[2]] ? 1 : 0;
                told.add(new Told(step, acts.size(), knew));
                acts.add(act);
                c.due("act of " + text, x.act(step, act[0], act[1], act[2], knew), acts.size() - 1);
            }
        }
        for (int known : new int[] {0, step / 2, step, 999}) {
            compareFit(x, m, lives, fitting(lives, acts, told, known), known, text);
        }
        compareAsk(x, m, lives, fitting(lives, acts, told, 999), text);
    }

    private static List<Integer> fitting(List<Model.Life> lives, List<int[]> acts, List<Told> told, int known) {
        int[] value = new int[acts.size()];
        java.util.Arrays.fill(value, -1);
        for (Told t : told) {
            if (t.step <= known) {
                value[t.act] = t.knew;
            }
        }
        List<Integer> list = new ArrayList<>();
        for (int n = 0; n < lives.size(); n++) {
            boolean is = true;
            for (int k = 0; k < value.length; k++) {
                int[] a = acts.get(k);
                is &= value[k] < 0 || lives.get(n).ahead[a[0]][a[1]][a[2]] == (value[k] == 1);
            }
            if (is) {
                list.add(n);
            }
        }
        return list;
    }

    private void compareFit(WhoseDay x, Model m, List<Model.Life> lives, List<Integer> fits, int known, String text) {
        c.due("fit(" + known + ", 0) of " + text, x.fit(known, 0), fits.size());
        c.due("fit(" + known + ", 1) of " + text, x.fit(known, 1), fits.isEmpty() ? -1 : fits.get(0));
        c.due("fit(" + known + ", 2) of " + text, x.fit(known, 2), fits.isEmpty() ? -1 : fits.get(fits.size() - 1));
        for (int p = 0; p < m.people(); p++) {
            int bits = 0;
            for (int n : fits) {
                bits |= m.turnings.get(n)[p] < 0 ? 0 : 1 << m.turnings.get(n)[p];
            }
            c.due("sure(" + p + ", " + known + ") of " + text, x.sure(p, known), bits);
        }
        int f = below(m.facts.size());
        int day = below(28);
        int surely = 0;
        int perhaps = 0;
        for (int p = 0; p < m.people(); p++) {
            int many = 0;
            for (int n : fits) {
                many += lives.get(n).behind[day][p][f] ? 1 : 0;
            }
            surely |= many > 0 && many == fits.size() ? 1 << p : 0;
            perhaps |= many > 0 ? 1 << p : 0;
        }
        c.due("knowers 0 of " + text, x.knowers(f, day, known, 0), surely);
        c.due("knowers 1 of " + text, x.knowers(f, day, known, 1), perhaps);
    }

    private void compareAsk(WhoseDay x, Model m, List<Model.Life> lives, List<Integer> fits, String text) {
        int[] best = {-1, -1, -1};
        int least = fits.size();
        for (int p = 0; p < m.people(); p++) {
            for (int f = 0; f < m.facts.size(); f++) {
                for (int day = 0; day < 28; day++) {
                    int yes = 0;
                    for (int n : fits) {
                        yes += lives.get(n).ahead[day][p][f] ? 1 : 0;
                    }
                    int greater = Math.max(yes, fits.size() - yes);
                    if (greater < least) {
                        least = greater;
                        best = new int[] {p, f, day};
                    }
                }
            }
        }
        for (int what = 0; what < 3; what++) {
            c.due("ask(" + what + ") of " + text, x.ask(what), best[what]);
        }
    }

    private void compareLots(WhoseDay x, Model m, String text) {
        int f = below(m.facts.size());
        int day = below(28);
        long knowing = 0;
        long full = 0;
        long days = 0;
        for (int[] row : m.turnings) {
            Model.Life life = m.life(row, 7, 0);
            for (int p = 0; p < m.people(); p++) {
                knowing += life.behind[day][p][f] ? 1 : 0;
            }
            int first = m.dayOfAll(life, f);
            full += first >= 0 && first <= day ? 1 : 0;
            days += first < 0 ? 28 : first;
        }
        long[] sums = {knowing, full, days};
        for (int i = 0; i < 3; i++) {
            long common = java.math.BigInteger.valueOf(sums[i])
                .gcd(java.math.BigInteger.valueOf(m.turnings.size())).longValue();
            for (boolean isLower : new boolean[] {false, true}) {
                long want = (isLower ? m.turnings.size() : sums[i]) / common;
                int got = i == 2 ? x.lotDay(f, isLower) : x.lot(f, day, i, isLower);
                c.due("lot " + i + " of " + f + " behind " + day + " of " + text, got, want);
            }
        }
    }

    private void compareRun(WhoseDay x, Model m, int[] row, String text) {
        int year = m.year == null ? 28 : m.year;
        long s = below(Integer.MAX_VALUE);
        c.due("begin of " + text, x.begin((int) s), 1);
        Model.Life life = m.new Life();
        int[] now = row;
        int passed = 0;
        for (int i = 0; i < 5; i++) {
            int days = below(30);
            for (int d = 0; d < days; d++) {
                life.live(passed % year, now, 7, 0);
                passed++;
                if (passed % year == 0) {
                    s = (1103515245L * s + 12345) % 2147483648L;
                    now = m.turnings.get((int) (s / 65536 % m.turnings.size()));
                }
            }
            c.due("go(" + days + ") of " + text, x.go(days), passed);
            for (int p = 0; p < m.people(); p++) {
                int bits = 0;
                for (int f = 0; f < m.facts.size(); f++) {
                    bits |= life.know[p][f] ? 1 << f : 0;
                }
                c.due("now(" + p + ", 0) of " + text, x.now(p, 0), bits);
                c.due("now(" + p + ", 1) of " + text, x.now(p, 1), now[p]);
            }
        }
        c.due("dreams(0) behind a run of " + text, x.dreams(0), row[0]);
    }

    /** A text of clauses, some of them wrong, with a byte or two spoilt. */
    private void oneSpoiltText() {
        int people = 1 + below(9);
        StringBuilder b = new StringBuilder(townText(people));
        int changes = below(4);
        for (int i = 0; i < changes && b.length() > 0; i++) {
            int at = below(b.length());
            String signs = "az09;; \nA\t\u00e9\u0000personalone";
            switch (below(4)) {
                case 0: b.setCharAt(at, signs.charAt(below(signs.length()))); break;
                case 1: b.deleteCharAt(at); break;
                case 2: b.insert(at, signs.charAt(below(signs.length()))); break;
                default: b.setLength(at); break;
            }
        }
        String text = b.length() > 900 ? b.substring(0, 900) : b.toString();
        Model m = Model.read(text);
        WhoseDay x = new WhoseDay();
        c.due("town() of " + text, Check.town(x, text), m.faultKind == 0 ? m.clauses : -1);
        c.due("fault(0) of " + text, x.fault(0), m.faultKind);
        c.due("fault(1) of " + text, x.fault(1), m.faultPlace);
    }
}
