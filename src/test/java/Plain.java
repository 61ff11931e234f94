import java.math.BigInteger;
import java.util.ArrayList;
import java.util.Arrays;
import java.util.List;

/** Every call of the face once more, over Model: what a plain object with the same calls would answer. */
final class Plain {
    private record Act(int step, int day, int person, int fact, int knew) { }

    private record Right(int step, int act, int knew) { }

    /** A run as it is at one time; never changed, so that a slot may keep it. */
    private record Years(long seed, int[] row, boolean[][] know, int passed) { }

    private final StringBuilder tape = new StringBuilder();
    private Model town = Model.read("");
    private int faultKind;
    private int faultPlace = -1;
    private int[] row = {};
    private List<Model.Life> lives;
    private final List<Act> acts = new ArrayList<>();
    private final List<Right> rights = new ArrayList<>();
    private int latest;
    private Years run;
    private final Years[] slots = new Years[3];

    // ---- what numbers can be

    private boolean isPerson(int p) {
        return 0 <= p && p < town.people();
    }

    private boolean isFact(int f) {
        return 0 <= f && f < town.facts.size();
    }

    private static boolean isIn(int n, int least, int most) {
        return least <= n && n <= most;
    }

    private boolean isAlone(int p) {
        return town.alone.get(p);
    }

    private String taken() {
        String text = tape.toString();
        tape.setLength(0);
        return text;
    }

    // ---- the tape and the town

    int feed(int... five) {
        if (tape.length() > 880) {
            return -3;
        }
        for (int four : five) {
            for (int i = 3; i >= 0; i--) {
                tape.append((char) (four >>> 8 * i & 255));
            }
        }
        return tape.length();
    }

    int end(int n) {
        if (!isIn(n, 0, tape.length())) {
            return -1;
        }
        tape.setLength(n);
        return n;
    }

    int town() {
        Model read = Model.read(taken());
        faultKind = read.faultKind;
        faultPlace = read.faultPlace;
        if (faultKind != 0) {
            return -1;
        }
        town = read;
        row = town.turnings.get(0);
        lives = null;
        acts.clear();
        rights.clear();
        latest = 0;
        run = null;
        Arrays.fill(slots, null);
        return town.clauses;
    }

    int fault(int what) {
        return what == 0 ? faultKind : what == 1 ? faultPlace : -1;
    }

    int told(int what) {
        int[] six = {town.people(), town.facts.size(), town.talks.size(), town.naps.size(),
            town.law == null ? 0 : town.law, town.year == null ? 28 : town.year};
        if (isIn(what, 0, 5)) {
            return six[what];
        }
        if (isIn(what, 10, 17) && isPerson(what - 10)) {
            return isAlone(what - 10) ? 1 : 0;
        }
        if (isIn(what, 20, 27) && isPerson(what - 20)) {
            return town.toldDreams.getOrDefault(what - 20, -1);
        }
        if (isIn(what, 30, 41) && isFact(what - 30)) {
            return town.facts.get(what - 30)[0];
        }
        return isIn(what, 50, 61) && isFact(what - 50) ? town.facts.get(what - 50)[1] : -1;
    }

    int turnings() {
        return town.turnings.size();
    }

    int turn(int number) {
        if (!isIn(number, 0, town.turnings.size() - 1)) {
            return -2;
        }
        row = town.turnings.get(number);
        return 1;
    }

    int dreams(int person) {
        return isPerson(person) ? row[person] : -2;
    }

    int number() {
        String text = taken();
        int[] told = new int[text.length()];
        for (int i = 0; i < told.length; i++) {
            told[i] = text.charAt(i) == 'o' ? -1 : text.charAt(i) < '0' ? 99 : text.charAt(i) - '0';
        }
        return town.numberOf(told);
    }

    // ---- what is known

    int knows(int person, int day, int ways) {
        if (!isPerson(person) || !isIn(day, 0, 27) || !isIn(ways, 0, 7)) {
            return -2;
        }
        return bits(town.life(row, ways, 0).behind[day][person]);
    }

    private static int bits(boolean[] truths) {
        int bits = 0;
        for (int i = 0; i < truths.length; i++) {
            bits |= truths[i] ? 1 << i : 0;
        }
        return bits;
    }

    int comes(int person, int fact, int ways, int what) {
        if (!isPerson(person) || !isFact(fact) || !isIn(ways, 0, 7) || !isIn(what, 0, 2)) {
            return -2;
        }
        int[] coming = town.life(row, ways, 0).coming[person][fact];
        return coming == null ? -1 : coming[what];
    }

    int all(int fact, int ways) {
        return isFact(fact) && isIn(ways, 0, 7) ? town.dayOfAll(town.life(row, ways, 0), fact) : -2;
    }

    int judge() {
        String text = taken();
        if (!text.matches("([ \n]*\\d{1,4}[ \n]+\\d{1,4}[ \n]+\\d{1,4}[ \n]*;)*[ \n]*")) {
            return -1000;
        }
        Model.Life life = town.life(row, 7, 0);
        int wrong = -1;
        int rows = 0;
        for (String line : text.split(";")) {
            if (line.isBlank()) {
                continue;
            }
            String[] n = line.trim().split("[ \n]+");
            int day = Integer.parseInt(n[0]);
            int person = Integer.parseInt(n[1]);
            int fact = Integer.parseInt(n[2]);
            if (day > 27 || person > 7 || fact > 11) {
                return -1000;
            }
            boolean isRight = isPerson(person) && isFact(fact) && life.ahead[day][person][fact];
            wrong = wrong < 0 && !isRight ? rows : wrong;
            rows++;
        }
        return wrong < 0 ? rows : -1 - wrong;
    }

    // ---- who dreams whom

    int act(int told, int day, int person, int fact, int knew) {
        if (!isIn(told, latest, 999) || !isIn(day, 0, 27) || !isPerson(person) || !isFact(fact)
            || !isIn(knew, 0, 1)) {
            return -2;
        }
        if (acts.size() == 16) {
            return -3;
        }
        latest = told;
        acts.add(new Act(told, day, person, fact, knew));
        return acts.size() - 1;
    }

    int right(int told, int k, int knew) {
        if (!isIn(told, latest, 999) || !isIn(k, 0, acts.size() - 1) || !isIn(knew, 0, 1)) {
            return -2;
        }
        if (rights.size() == 20) {
            return -3;
        }
        latest = told;
        rights.add(new Right(told, k, knew));
        return (int) rights.stream().filter(r -> r.act == k).count();
    }

    private List<Model.Life> lives() {
        if (lives == null) {
            lives = new ArrayList<>();
            for (int[] one : town.turnings) {
                lives.add(town.life(one, 7, 0));
            }
        }
        return lives;
    }

    private List<Integer> fitting(int known) {
        List<Integer> list = new ArrayList<>();
        for (int n = 0; n < lives().size(); n++) {
            boolean is = true;
            for (int k = 0; k < acts.size(); k++) {
                Act a = acts.get(k);
                int knew = a.knew;
                for (Right r : rights) {
                    knew = r.act == k && r.step <= known ? r.knew : knew;
                }
                is &= a.step > known || lives().get(n).ahead[a.day][a.person][a.fact] == (knew == 1);
            }
            if (is) {
                list.add(n);
            }
        }
        return list;
    }

    int fit(int known, int what) {
        if (!isIn(known, 0, 999) || !isIn(what, 0, 2)) {
            return -2;
        }
        List<Integer> fits = fitting(known);
        if (what == 0) {
            return fits.size();
        }
        return fits.isEmpty() ? -1 : fits.get(what == 1 ? 0 : fits.size() - 1);
    }

    int sure(int person, int known) {
        if (!isPerson(person) || !isIn(known, 0, 999)) {
            return -2;
        }
        int bits = 0;
        for (int n : fitting(known)) {
            bits |= isAlone(person) ? 0 : 1 << town.turnings.get(n)[person];
        }
        return bits;
    }

    int ask(int what) {
        if (!isIn(what, 0, 2)) {
            return -2;
        }
        List<Integer> fits = fitting(999);
        int[] best = {-1, -1, -1};
        int least = fits.size();
        for (int p = 0; p < town.people(); p++) {
            for (int f = 0; f < town.facts.size(); f++) {
                for (int day = 0; day < 28; day++) {
                    int yes = 0;
                    for (int n : fits) {
                        yes += lives().get(n).ahead[day][p][f] ? 1 : 0;
                    }
                    if (Math.max(yes, fits.size() - yes) < least) {
                        least = Math.max(yes, fits.size() - yes);
                        best = new int[] {p, f, day};
                    }
                }
            }
        }
        return best[what];
    }

    int knowers(int fact, int day, int known, int what) {
        if (!isFact(fact) || !isIn(day, 0, 27) || !isIn(known, 0, 999) || !isIn(what, 0, 1)) {
            return -2;
        }
        List<Integer> fits = fitting(known);
        int bits = 0;
        for (int p = 0; p < town.people(); p++) {
            int many = 0;
            for (int n : fits) {
                many += lives().get(n).behind[day][p][fact] ? 1 : 0;
            }
            bits |= many > 0 && (what == 1 || many == fits.size()) ? 1 << p : 0;
        }
        return bits;
    }

    // ---- wishes, signs, trades, rings

    int wishes() {
        return town.wishes.size();
    }

    int met(int set) {
        return isIn(set, 0, (1 << town.people()) - 1) ? town.met(row, set) : -2;
    }

    int plan() {
        return town.plan(row);
    }

    int said(int from, int to, int day) {
        if (!isPerson(from) || !isPerson(to) || !isIn(day, 0, 27)) {
            return -2;
        }
        List<Integer> sign = from == to ? null : town.sign(row, from, to, day);
        return from == to ? -4 : sign == null ? -1 : sign.get(0);
    }

    int over(int from, int to, int day, int i) {
        if (!isPerson(from) || !isPerson(to) || !isIn(day, 0, 27) || i < 0) {
            return -2;
        }
        List<Integer> sign = from == to ? null : town.sign(row, from, to, day);
        return from == to ? -4 : sign == null || i >= sign.size() - 1 ? -1 : sign.get(i + 1);
    }

    int skill(int person, int day) {
        return isPerson(person) && isIn(day, 0, 27) ? town.skills(row, day)[person] : -2;
    }

    int ring(int person) {
        if (person != -1) {
            return isPerson(person) ? ringOf(person).size() : -2;
        }
        int many = 0;
        for (int p = 0; p < row.length; p++) {
            // a ring is counted at its least one
            many += !isAlone(p) && ringOf(p).stream().min(Integer::compare).get() == p ? 1 : 0;
        }
        return many;
    }

    private List<Integer> ringOf(int person) {
        List<Integer> ring = new ArrayList<>();
        for (int p = row[person]; p != -1 && !ring.contains(p); p = row[p]) {
            ring.add(p);
        }
        return ring;
    }

    int marry(int a, int b) {
        if (!isPerson(a) || !isPerson(b) || a == b || isAlone(a) || isAlone(b)) {
            return -2;
        }
        int[] married = row.clone();
        married[a] = row[b];
        married[b] = row[a];
        return town.numberOf(married);
    }

    int kept(int person, int fact, int day) {
        return isPerson(person) && isFact(fact) && isIn(day, 0, 27) ? town.kept(row, person, fact, day) : -2;
    }

    // ---- by lot

    int lot(int fact, int day, int what, boolean isLower) {
        if (!isFact(fact) || !isIn(day, 0, 27) || !isIn(what, 0, 1)) {
            return -2;
        }
        long sum = 0;
        for (Model.Life life : lives()) {
            int knowing = 0;
            for (boolean[] known : life.behind[day]) {
                knowing += known[fact] ? 1 : 0;
            }
            sum += what == 0 ? knowing : knowing == town.people() ? 1 : 0;
        }
        return part(sum, isLower);
    }

    int lotDay(int fact, boolean isLower) {
        if (!isFact(fact)) {
            return -2;
        }
        long sum = 0;
        for (Model.Life life : lives()) {
            int day = town.dayOfAll(life, fact);
            sum += day == -1 ? 28 : day;
        }
        return part(sum, isLower);
    }

    private int part(long upper, boolean isLower) {
        long lower = town.turnings.size();
        long common = BigInteger.valueOf(upper).gcd(BigInteger.valueOf(lower)).longValue();
        return (int) ((isLower ? lower : upper) / common);
    }

    long rings() {
        String text = taken();
        if (!text.matches("([ \n]*\\d{1,4}([ \n]+\\d{1,4})*)?[ \n]*")) {
            return -1;
        }
        int[] many = new int[21];
        int people = 0;
        for (String word : text.trim().split("[ \n]+")) {
            int length = word.isEmpty() ? 0 : Integer.parseInt(word);
            if (!word.isEmpty() && !isIn(length, 2, 20)) {
                return -1;
            }
            many[length] += word.isEmpty() ? 0 : 1;
            people += length;
            if (people > 20) {
                return -1;
            }
        }
        return ways(people, many);
    }

    /** The least one's ring is chosen: its length, who is in it, in which row; then those of the rest. */
    private static long ways(int people, int[] left) {
        if (people == 0) {
            return 1;
        }
        long sum = 0;
        for (int length = 2; length <= people; length++) {
            if (left[length] > 0) {
                left[length]--;
                long rows = 1;
                for (int i = 1; i < length; i++) {
                    rows *= people - i;
                }
                sum += rows * ways(people - length, left);
                left[length]++;
            }
        }
        return sum;
    }

    long parts(int n, int k) {
        return isIn(n, 0, 20) && isIn(k, 0, 10) ? partsOf(n, k) : -2;
    }

    private static long partsOf(int n, int k) {
        if (n == 0 || k == 0) {
            return n == 0 && k == 0 ? 1 : 0;
        }
        long sum = 0;
        long rows = n - 1;
        for (int length = 2; length <= n; length++) {
            sum += rows * partsOf(n - length, k - 1);
            rows *= n - length;
        }
        return sum;
    }

    // ---- runs

    int begin(int seed) {
        if (seed < 0) {
            return -2;
        }
        run = new Years(seed, row, new boolean[town.people()][town.facts.size()], 0);
        return 1;
    }

    int go(int days) {
        if (!isIn(days, 0, 200)) {
            return -2;
        }
        if (run == null) {
            return -4;
        }
        int year = town.year == null ? 28 : town.year;
        Model.Life life = town.new Life();
        for (int p = 0; p < life.know.length; p++) {
            life.know[p] = run.know[p].clone();
        }
        long seed = run.seed;
        int[] now = run.row;
        int passed = run.passed;
        for (int i = 0; i < days; i++) {
            life.live(passed % year, now, 7, 0);
            passed++;
            if (passed % year == 0) {
                seed = (1103515245L * seed + 12345) % 2147483648L;
                now = town.turnings.get((int) (seed / 65536 % town.turnings.size()));
            }
        }
        run = new Years(seed, now, life.know, passed);
        return passed;
    }

    int now(int person, int what) {
        if (!isPerson(person) || !isIn(what, 0, 1)) {
            return -2;
        }
        return run == null ? -1 : what == 0 ? bits(run.know[person]) : run.row[person];
    }

    int keep(int slot) {
        if (!isIn(slot, 0, 2)) {
            return -2;
        }
        slots[slot] = run == null ? slots[slot] : run;
        return run == null ? -4 : run.passed;
    }

    int take(int slot) {
        if (!isIn(slot, 0, 2)) {
            return -2;
        }
        run = slots[slot] == null ? run : slots[slot];
        return slots[slot] == null ? -4 : run.passed;
    }

    int count(int what) {
        int[] five = {town.clauses, acts.size(), rights.size(), run == null ? 0 : run.passed, tape.length()};
        return isIn(what, 0, 4) ? five[what] : -1;
    }
}
