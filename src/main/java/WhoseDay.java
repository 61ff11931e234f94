import java.util.Arrays;

/**
 * A town in which each dreams, at night, some other's day. The promises that this class keeps are
 * numbered in the project's document; README.md says how to use it.
 */
public final class WhoseDay {
    public static final int NONE = -1;
    public static final int RANGE = -2;
    public static final int FULL = -3;
    public static final int STATE = -4;

    private static final int MOST_PEOPLE = 8;
    private static final int MOST_FACTS = 12;
    private static final int MOST_ROWS = 8;
    private static final int MOST_SLOTS = 3;
    private static final int MOST_STEP = 999;
    private static final int MOST_DAYS_AT_ONCE = 200;
    private static final int MOST_RING_PEOPLE = 20;
    private static final int MOST_RINGS = 10;
    private static final int DAYS = 28;
    private static final int NIGHTS = 1;
    private static final int TALKS = 2;
    private static final int NAPS = 4;
    private static final int ALL_WAYS = 7;
    private static final int NO_BOOK = -1000;
    private static final int ALONE_SIGN = 'o';

    private final Tape tape = new Tape();
    private final Tokens tokens = new Tokens(tape);
    private final TownReader reader;
    private final Spread spread;
    private final Acts acts = new Acts();
    private final Census census;
    private final Run run = new Run();
    private final Run[] slots = new Run[MOST_SLOTS];
    private final int[] chain = new int[MOST_PEOPLE];
    private final int[] skills = new int[MOST_PEOPLE];
    private final int[] skillsAhead = new int[MOST_PEOPLE];
    private final int[] ringsOfLength = new int[MOST_RING_PEOPLE + 1];
    private final long[] ringWays = new long[(MOST_RING_PEOPLE + 1) * (MOST_RINGS + 1)];
    private Town current;
    private Town draft;
    private int turning;
    private int chainLength;

    public WhoseDay() {
        current = new Town();
        draft = new Town();
        reader = new TownReader(tokens, draft);
        spread = new Spread(current);
        census = new Census(current, spread, acts);
        for (int i = 0; i < slots.length; i++) {
            slots[i] = new Run();
        }
        current.clear();
        current.turnings.prepare(current);
        settle();
    }

    /** All that rests on the town begins anew with it. */
    private void settle() {
        turning = current.turnings.rowOf(0);
        spread.setTown(current);
        acts.clear();
        census.setTown(current);
        run.isOn = false;
        for (int i = 0; i < slots.length; i++) {
            slots[i].isOn = false;
        }
    }

    // ---- the tape

    public int feed(int a, int b, int c, int d, int e) {
        if (!tape.hasRoom()) {
            return FULL;
        }
        tape.append(a);
        tape.append(b);
        tape.append(c);
        tape.append(d);
        tape.append(e);
        return tape.size;
    }

    public int end(int n) {
        if (n < 0 || n > tape.size) {
            return NONE;
        }
        tape.size = n;
        return n;
    }

    // ---- the town

    public int town() {
        boolean isTown = reader.read(draft);
        tape.size = 0;
        if (!isTown) {
            return NONE;
        }
        Town former = current;
        current = draft;
        draft = former;
        settle();
        return current.clauses;
    }

    public int fault(int what) {
        if (what == 0) {
            return reader.faultKind;
        }
        return what == 1 ? reader.faultPlace : NONE;
    }

    public int told(int what) {
        switch (what) {
            case 0:
                return current.people;
            case 1:
                return current.facts.size;
            case 2:
                return current.talks.size;
            case 3:
                return current.naps.size;
            case 4:
                return current.law;
            case 5:
                return current.year;
            default:
                return toldOfOne(what);
        }
    }

    private int toldOfOne(int what) {
        if (current.isPerson(what - 10)) {
            return current.isAlone(what - 10) ? 1 : 0;
        }
        if (current.isPerson(what - 20)) {
            return current.toldDreamOf(what - 20);
        }
        if (current.isFact(what - 30)) {
            return current.facts.at(what - 30, 0);
        }
        if (current.isFact(what - 50)) {
            return current.facts.at(what - 50, 1);
        }
        return NONE;
    }

    public int turnings() {
        return current.turnings.howMany();
    }

    public int turn(int number) {
        if (number < 0 || number >= current.turnings.howMany()) {
            return RANGE;
        }
        turning = current.turnings.rowOf(number);
        return 1;
    }

    public int dreams(int person) {
        if (!current.isPerson(person)) {
            return RANGE;
        }
        return Turnings.dreamOf(turning, person);
    }

    public int number() {
        int answer = numberOnTape();
        tape.size = 0;
        return answer;
    }

    private int numberOnTape() {
        if (tape.size != current.people) {
            return NONE;
        }
        int row = Turnings.EMPTY_ROW;
        for (int person = 0; person < current.people; person++) {
            int sign = tape.at(person);
            if (current.isAlone(person) != (sign == ALONE_SIGN)) {
                return NONE;
            }
            if (sign != ALONE_SIGN) {
                if (!current.isPerson(sign - '0')) {
                    return NONE;
                }
                row = Turnings.withDream(row, person, sign - '0');
            }
        }
        return current.turnings.numberOf(row);
    }

    // ---- what is known

    public int knows(int person, int day, int ways) {
        if (!current.isPerson(person) || !isDay(day) || !areWays(ways)) {
            return RANGE;
        }
        spread.setTurning(turning);
        int known = 0;
        for (int fact = 0; fact < current.facts.size; fact++) {
            spread.setFact(fact, ways, 0);
            known |= (spread.behind(day) >> person & 1) << fact;
        }
        return known;
    }

    public int comes(int person, int fact, int ways, int what) {
        if (!current.isPerson(person) || !current.isFact(fact) || !areWays(ways)) {
            return RANGE;
        }
        if (what < 0 || what > 2) {
            return RANGE;
        }
        spread.setTurning(turning);
        spread.setFact(fact, ways, 0);
        if (!spread.findComing(person)) {
            return NONE;
        }
        if (what == 0) {
            return spread.comingDay;
        }
        return what == 1 ? spread.comingWay : spread.comingFrom;
    }

    public int all(int fact, int ways) {
        if (!current.isFact(fact) || !areWays(ways)) {
            return RANGE;
        }
        spread.setTurning(turning);
        spread.setFact(fact, ways, 0);
        return spread.firstDayOfAll();
    }

    public int judge() {
        int answer = judgedBook();
        tape.size = 0;
        return answer;
    }

    /** The whole book is read even behind a wrong act, as a later row may show it to be no book. */
    private int judgedBook() {
        spread.setTurning(turning);
        tokens.rewind();
        int firstWrong = NONE;
        for (int row = 0; row < Tape.MOST; row++) {
            tokens.advance();
            if (tokens.kind == Tokens.END) {
                return firstWrong == NONE ? row : NONE - firstWrong;
            }
            int day = bookNumber(DAYS - 1);
            tokens.advance();
            int person = bookNumber(MOST_PEOPLE - 1);
            tokens.advance();
            int fact = bookNumber(MOST_FACTS - 1);
            tokens.advance();
            if (day < 0 || person < 0 || fact < 0 || tokens.kind != Tokens.MARK) {
                return NO_BOOK;
            }
            if (firstWrong == NONE && !isActRight(day, person, fact)) {
                firstWrong = row;
            }
        }
        return NO_BOOK;
    }

    private int bookNumber(int most) {
        return tokens.kind == Tokens.NUMBER && tokens.value <= most ? tokens.value : NONE;
    }

    private boolean isActRight(int day, int person, int fact) {
        if (!current.isPerson(person) || !current.isFact(fact)) {
            return false;
        }
        spread.setFact(fact, ALL_WAYS, 0);
        return (spread.aheadOfNight(day) >> person & 1) != 0;
    }

    // ---- who dreams whom

    public int act(int told, int day, int person, int fact, int knew) {
        if (!acts.mayBeTold(told, knew) || !isDay(day)) {
            return RANGE;
        }
        if (!current.isPerson(person) || !current.isFact(fact)) {
            return RANGE;
        }
        if (!acts.hasRoomForAct()) {
            return FULL;
        }
        census.isAsked = false;
        return acts.addAct(told, day, person, fact, knew);
    }

    public int right(int told, int k, int knew) {
        if (!acts.mayBeTold(told, knew) || k < 0 || k >= acts.size) {
            return RANGE;
        }
        if (!acts.hasRoomForRight()) {
            return FULL;
        }
        census.isAsked = false;
        return acts.addRight(told, k, knew);
    }

    public int fit(int known, int what) {
        if (!isStep(known) || what < 0 || what > 2) {
            return RANGE;
        }
        census.findFitting(known);
        if (what == 0) {
            return census.fittingSize;
        }
        return what == 1 ? census.leastFitting() : census.greatestFitting();
    }

    public int sure(int person, int known) {
        if (!current.isPerson(person) || !isStep(known)) {
            return RANGE;
        }
        census.findFitting(known);
        return census.mayDream(person);
    }

    public int ask(int what) {
        if (what < 0 || what > 2) {
            return RANGE;
        }
        census.choose(MOST_STEP);
        if (what == 0) {
            return census.askPerson;
        }
        return what == 1 ? census.askFact : census.askDay;
    }

    public int knowers(int fact, int day, int known, int what) {
        if (!current.isFact(fact) || !isDay(day) || !isStep(known)) {
            return RANGE;
        }
        if (what < 0 || what > 1) {
            return RANGE;
        }
        census.findFitting(known);
        return what == 0 ? census.surelyKnowing(fact, day) : census.perhapsKnowing(fact, day);
    }

    // ---- wishes, signs, trades, rings

    public int wishes() {
        return current.wishes.size;
    }

    public int met(int set) {
        if (set < 0 || set >= 1 << current.people) {
            return RANGE;
        }
        spread.setTurning(turning);
        return wishesMet(set);
    }

    private int wishesMet(int set) {
        int bits = 0;
        for (int wish = 0; wish < current.wishes.size; wish++) {
            boolean isWanted = current.wishes.at(wish, 0) == 1;
            int person = current.wishes.at(wish, 1);
            int fact = current.wishes.at(wish, 2);
            boolean isKnown = false;
            if (current.isFact(fact)) {
                spread.setFact(fact, ALL_WAYS, set);
                isKnown = (spread.behind(current.wishes.at(wish, 3)) >> person & 1) != 0;
            }
            if (isKnown == isWanted) {
                bits |= 1 << wish;
            }
        }
        return bits;
    }

    public int plan() {
        spread.setTurning(turning);
        int best = 0;
        int most = Integer.bitCount(wishesMet(0));
        for (int set = 1; set < 1 << current.people; set++) {
            int many = Integer.bitCount(wishesMet(set));
            boolean isSmaller = Integer.bitCount(set) < Integer.bitCount(best);
            if (many > most || many == most && isSmaller) {
                most = many;
                best = set;
            }
        }
        return best;
    }

    public int said(int from, int to, int day) {
        if (!current.isPerson(from) || !current.isPerson(to) || !isDay(day)) {
            return RANGE;
        }
        return from == to ? STATE : sendSign(from, to, day);
    }

    public int over(int from, int to, int day, int i) {
        if (!current.isPerson(from) || !current.isPerson(to) || !isDay(day) || i < 0) {
            return RANGE;
        }
        if (from == to) {
            return STATE;
        }
        if (sendSign(from, to, day) == NONE || i >= chainLength || i >= chain.length) {
            return NONE;
        }
        return chain[i];
    }

    /** Fills the chain of those over whom the sign comes; the day on which the last one has it. */
    private int sendSign(int from, int to, int firstDay) {
        int maker = from;
        int day = firstDay;
        chain[0] = from;
        for (int hop = 1; hop < chain.length; hop++) {
            day = current.firstWakefulDay(maker, day);
            maker = dreamerOf(maker);
            if (day == NONE || maker == NONE || maker == from) {
                return NONE;
            }
            chain[hop] = maker;
            chainLength = hop + 1;
            if (maker == to) {
                return day;
            }
            day++;
        }
        return NONE;
    }

    private int dreamerOf(int person) {
        for (int other = 0; other < current.people; other++) {
            if (Turnings.dreamOf(turning, other) == person) {
                return other;
            }
        }
        return NONE;
    }

    public int skill(int person, int day) {
        if (!current.isPerson(person) || !isDay(day)) {
            return RANGE;
        }
        Arrays.fill(skills, 0);
        for (int d = 0; d <= day && d < DAYS; d++) {
            practise(d);
        }
        return skills[person];
    }

    private void practise(int day) {
        int dull = current.dullOn(day);
        for (int person = 0; person < current.people; person++) {
            skillsAhead[person] = Math.min(9999, skills[person] + current.trades[person]);
        }
        for (int person = 0; person < current.people; person++) {
            int had = skillsAhead[person];
            int dreamt = Turnings.dreamOf(turning, person);
            boolean isLearning = current.isPerson(dreamt) && (dull >> dreamt & 1) == 0;
            int more = isLearning ? skillsAhead[dreamt] - had : 0;
            skills[person] = more > 0 ? Math.min(9999, had + more / 4) : had;
        }
    }

    public int ring(int person) {
        if (person == NONE) {
            return howManyRings();
        }
        return current.isPerson(person) ? ringLength(person) : RANGE;
    }

    private int ringLength(int person) {
        int next = Turnings.dreamOf(turning, person);
        if (next == NONE) {
            return 0;
        }
        int length = 1;
        while (next != person && length < MOST_PEOPLE) {
            next = Turnings.dreamOf(turning, next);
            length++;
        }
        return length;
    }

    private int howManyRings() {
        int many = 0;
        int seen = 0;
        for (int person = 0; person < current.people; person++) {
            if ((seen >> person & 1) == 0 && !current.isAlone(person)) {
                many++;
                seen |= ringOf(person);
            }
        }
        return many;
    }

    private int ringOf(int person) {
        int bits = 0;
        int next = person;
        for (int i = 0; i < MOST_PEOPLE && next != NONE; i++) {
            bits |= 1 << next;
            next = Turnings.dreamOf(turning, next);
        }
        return bits;
    }

    public int marry(int a, int b) {
        if (!current.isPerson(a) || !current.isPerson(b) || a == b) {
            return RANGE;
        }
        if (current.isAlone(a) || current.isAlone(b)) {
            return RANGE;
        }
        int row = Turnings.withDream(turning, a, Turnings.dreamOf(turning, b));
        row = Turnings.withDream(row, b, Turnings.dreamOf(turning, a));
        return current.turnings.numberOf(row);
    }

    public int kept(int person, int fact, int day) {
        if (!current.isPerson(person) || !current.isFact(fact) || !isDay(day)) {
            return RANGE;
        }
        spread.setTurning(turning);
        int best = NONE;
        int fewest = MOST_PEOPLE + 1;
        for (int set = 0; set < 1 << current.people; set++) {
            if (Integer.bitCount(set) < fewest && isKeptBy(set, person, fact, day)) {
                fewest = Integer.bitCount(set);
                best = set;
            }
        }
        return best;
    }

    private boolean isKeptBy(int set, int person, int fact, int day) {
        spread.setFact(fact, ALL_WAYS, set);
        return (spread.behind(day) >> person & 1) == 0;
    }

    // ---- by lot

    public int lot(int fact, int day, int what, boolean isLower) {
        if (!current.isFact(fact) || !isDay(day) || what < 0 || what > 1) {
            return RANGE;
        }
        int upper = what == 0 ? census.knowingInAll(fact, day) : census.turningsOfAll(fact, day);
        return inLeastNumbers(upper, isLower);
    }

    public int lotDay(int fact, boolean isLower) {
        if (!current.isFact(fact)) {
            return RANGE;
        }
        return inLeastNumbers(census.firstDaysInAll(fact), isLower);
    }

    private int inLeastNumbers(int upper, boolean isLower) {
        int lower = current.turnings.howMany();
        int common = greatestDivisor(upper, lower);
        if (common <= 0) {
            return NONE;
        }
        return (isLower ? lower : upper) / common;
    }

    private static int greatestDivisor(int a, int b) {
        int x = a;
        int y = b;
        for (int i = 0; i < 64 && y > 0; i++) {
            int left = x % y;
            x = y;
            y = left;
        }
        return x;
    }

    public long rings() {
        long answer = ringsOnTape();
        tape.size = 0;
        return answer;
    }

    private long ringsOnTape() {
        Arrays.fill(ringsOfLength, 0);
        tokens.rewind();
        int people = 0;
        for (int i = 0; i <= MOST_RINGS; i++) {
            tokens.advance();
            if (tokens.kind == Tokens.END) {
                return waysOfRings(people);
            }
            boolean isLength = tokens.kind == Tokens.NUMBER && tokens.value >= 2;
            if (!isLength || tokens.value > MOST_RING_PEOPLE - people) {
                return NONE;
            }
            people += tokens.value;
            ringsOfLength[tokens.value]++;
        }
        return NONE;
    }

    /** Rows of people, less those that are the same but for a ring's first one or the rings' row. */
    private long waysOfRings(int people) {
        long ways = 1;
        for (int i = 2; i <= people; i++) {
            ways *= i;
        }
        for (int length = 2; length < ringsOfLength.length; length++) {
            for (int i = 1; i <= ringsOfLength[length]; i++) {
                ways = ways / length / i;
            }
        }
        return ways;
    }

    /** The last person either joins a ring of the others or makes a ring of two with one of them. */
    public long parts(int n, int k) {
        if (n < 0 || n > MOST_RING_PEOPLE || k < 0 || k > MOST_RINGS) {
            return RANGE;
        }
        int width = MOST_RINGS + 1;
        Arrays.fill(ringWays, 0L);
        ringWays[0] = 1;
        for (int people = 2; people <= n; people++) {
            for (int many = 1; many <= k; many++) {
                long joined = ringWays[(people - 1) * width + many];
                long paired = ringWays[(people - 2) * width + many - 1];
                ringWays[people * width + many] = (people - 1) * (joined + paired);
            }
        }
        return ringWays[n * width + k];
    }

    // ---- runs

    public int begin(int seed) {
        if (seed < 0) {
            return RANGE;
        }
        run.start(seed, turning);
        return 1;
    }

    public int go(int days) {
        if (days < 0 || days > MOST_DAYS_AT_ONCE) {
            return RANGE;
        }
        if (!run.isOn) {
            return STATE;
        }
        run.pass(days, current, spread);
        return run.passed;
    }

    public int now(int person, int what) {
        if (!current.isPerson(person) || what < 0 || what > 1) {
            return RANGE;
        }
        if (!run.isOn) {
            return NONE;
        }
        return what == 0 ? run.knownTo(person) : Turnings.dreamOf(run.row, person);
    }

    public int keep(int slot) {
        if (slot < 0 || slot >= slots.length) {
            return RANGE;
        }
        if (!run.isOn) {
            return STATE;
        }
        slots[slot].copyFrom(run);
        return run.passed;
    }

    public int take(int slot) {
        if (slot < 0 || slot >= slots.length) {
            return RANGE;
        }
        if (!slots[slot].isOn) {
            return STATE;
        }
        run.copyFrom(slots[slot]);
        return run.passed;
    }

    public int count(int what) {
        switch (what) {
            case 0:
                return current.clauses;
            case 1:
                return acts.size;
            case 2:
                return acts.rightsSize;
            case 3:
                return run.isOn ? run.passed : 0;
            case 4:
                return tape.size;
            default:
                return NONE;
        }
    }

    private static boolean isDay(int day) {
        return day >= 0 && day < DAYS;
    }

    private static boolean areWays(int ways) {
        return ways >= 0 && ways <= ALL_WAYS;
    }

    private static boolean isStep(int step) {
        return step >= 0 && step <= MOST_STEP;
    }

    /** The bytes that wait to be read. */
    private static final class Tape {
        static final int MOST = 900;
        private static final int FED_AT_ONCE = 20;

        private final int[] bytes = new int[MOST];
        private int size;

        boolean hasRoom() {
            return size + FED_AT_ONCE <= MOST;
        }

        void append(int four) {
            for (int shift = 24; shift >= 0; shift -= 8) {
                if (size < MOST) {
                    bytes[size] = four >>> shift & 255;
                    size++;
                }
            }
        }

        int at(int index) {
            return index >= 0 && index < size ? bytes[index] : NONE;
        }
    }

    /** Words, numbers and marks on the tape, one by one. */
    private static final class Tokens {
        static final int END = 0;
        static final int WORD = 1;
        static final int NUMBER = 2;
        static final int MARK = 3;
        static final int BAD = 4;
        private static final int MOST_LETTERS = 8;
        private static final int MOST_DIGITS = 4;

        private final Tape tape;
        private int next;
        private int kind;
        private int place;
        private int length;
        private int value;
        private long word;

        Tokens(Tape tape) {
            this.tape = tape;
        }

        void rewind() {
            next = 0;
        }

        void advance() {
            skipBlanks();
            place = next;
            int sign = tape.at(place);
            if (sign == NONE) {
                kind = END;
            } else if (isLetter(sign)) {
                readWord();
            } else if (isDigit(sign)) {
                readDigits();
            } else {
                kind = sign == ';' ? MARK : BAD;
                next = place + 1;
            }
        }

        private void skipBlanks() {
            while (next < tape.size && (tape.at(next) == ' ' || tape.at(next) == 10)) {
                next++;
            }
        }

        /** A word of eight letters, five bits each, is one number: names need no objects. */
        private void readWord() {
            word = 0;
            while (next < tape.size && isLetter(tape.at(next))) {
                word = word << 5 | tape.at(next) - 'a' + 1;
                next++;
            }
            length = next - place;
            kind = length <= MOST_LETTERS ? WORD : BAD;
        }

        private void readDigits() {
            value = 0;
            while (next < tape.size && isDigit(tape.at(next))) {
                value = value * 10 + tape.at(next) - '0';
                next++;
            }
            length = next - place;
            kind = length <= MOST_DIGITS ? NUMBER : BAD;
        }

        boolean isWord(String text) {
            if (kind != WORD || length != text.length()) {
                return false;
            }
            for (int i = 0; i < text.length(); i++) {
                if (tape.at(place + i) != text.charAt(i)) {
                    return false;
                }
            }
            return true;
        }

        private static boolean isLetter(int sign) {
            return sign >= 'a' && sign <= 'z';
        }

        private static boolean isDigit(int sign) {
            return sign >= '0' && sign <= '9';
        }
    }

    /** A list of at most so many rows of four numbers, made once and used again. */
    private static final class Rows {
        private static final int WIDTH = 4;

        private final int[] cells;
        private int size;

        Rows(int most) {
            cells = new int[Math.max(0, most) * WIDTH];
        }

        boolean isFull() {
            return (size + 1) * WIDTH > cells.length;
        }

        void add(int a, int b, int c, int d) {
            if (isFull()) {
                return;
            }
            int first = size * WIDTH;
            cells[first] = a;
            cells[first + 1] = b;
            cells[first + 2] = c;
            cells[first + 3] = d;
            size++;
        }

        int at(int row, int column) {
            if (row < 0 || row >= size || column < 0 || column >= WIDTH) {
                return NONE;
            }
            return cells[row * WIDTH + column];
        }
    }

    /** What a text tells of a town. */
    private static final class Town {
        private final long[] names = new long[MOST_PEOPLE];
        private final int[] toldDreams = new int[MOST_PEOPLE];
        private final int[] trades = new int[MOST_PEOPLE];
        /** Who, day. */
        private final Rows facts = new Rows(MOST_FACTS);
        /** First, second, every so many days. */
        private final Rows talks = new Rows(MOST_ROWS);
        /** Who, day. */
        private final Rows naps = new Rows(MOST_ROWS);
        /** Who, first day, last day. */
        private final Rows dulls = new Rows(MOST_ROWS);
        /** 1 wanted or 0 hidden, who, fact, day. */
        private final Rows wishes = new Rows(MOST_ROWS);
        private final Turnings turnings = new Turnings();
        private int people;
        private int alone;
        private int dreamt;
        private int traded;
        private int law;
        private int deep;
        private int year;
        private int clauses;

        void clear() {
            people = 0;
            alone = 0;
            dreamt = 0;
            traded = 0;
            law = 0;
            deep = 0;
            year = DAYS;
            clauses = 0;
            facts.size = 0;
            talks.size = 0;
            naps.size = 0;
            dulls.size = 0;
            wishes.size = 0;
            Arrays.fill(toldDreams, NONE);
            Arrays.fill(trades, 0);
        }

        boolean isPerson(int person) {
            return person >= 0 && person < people;
        }

        boolean isFact(int fact) {
            return fact >= 0 && fact < facts.size;
        }

        boolean isAlone(int person) {
            return (alone >> person & 1) != 0;
        }

        int toldDreamOf(int person) {
            return isPerson(person) ? toldDreams[person] : NONE;
        }

        int personOf(long name) {
            for (int person = 0; person < people; person++) {
                if (names[person] == name) {
                    return person;
                }
            }
            return NONE;
        }

        void addPerson(long name) {
            if (people < MOST_PEOPLE) {
                names[people] = name;
                people++;
            }
        }

        int dullOn(int day) {
            int bits = 0;
            for (int i = 0; i < dulls.size; i++) {
                if (dulls.at(i, 1) <= day && day <= dulls.at(i, 2)) {
                    bits |= 1 << dulls.at(i, 0);
                }
            }
            return bits;
        }

        int firstWakefulDay(int person, int from) {
            for (int day = from; day < DAYS; day++) {
                if ((dullOn(day) >> person & 1) == 0) {
                    return day;
                }
            }
            return NONE;
        }
    }

    /** Reads a town token by token up to its first fault. */
    private static final class TownReader {
        private static final int SYNTAX_FAULT = 1;
        private static final int RANGE_FAULT = 2;
        private static final int TWICE_FAULT = 3;
        private static final int ROOM_FAULT = 4;
        private static final int UNKNOWN_FAULT = 5;
        private static final int PERSON = 0;
        private static final int DREAMS = 1;
        private static final int FACT = 2;
        private static final int TALK = 3;
        private static final int NAP = 4;
        private static final int DULL = 5;
        private static final int WANT = 6;
        private static final int HIDE = 7;
        private static final int TRADE = 8;
        private static final int LAW = 9;
        private static final int DEEP = 10;
        private static final int YEAR = 11;

        private final Tokens tokens;
        private Town town;
        private int onceTold;
        private int faultKind;
        private int faultPlace = NONE;

        TownReader(Tokens tokens, Town town) {
            this.tokens = tokens;
            this.town = town;
        }

        boolean read(Town draft) {
            town = draft;
            town.clear();
            onceTold = 0;
            faultKind = 0;
            faultPlace = NONE;
            tokens.rewind();
            tokens.advance();
            for (int i = 0; i < Tape.MOST && tokens.kind != Tokens.END; i++) {
                if (!readClause()) {
                    return false;
                }
                town.clauses++;
                tokens.advance();
            }
            town.turnings.prepare(town);
            return town.turnings.howMany() > 0 || fail(ROOM_FAULT);
        }

        private boolean fail(int kind) {
            faultKind = kind;
            faultPlace = tokens.place;
            return false;
        }

        private boolean readClause() {
            int keyword = keyword();
            if (keyword == NONE) {
                return fail(SYNTAX_FAULT);
            }
            if (isOnce(keyword) && (onceTold >> keyword & 1) != 0) {
                return fail(TWICE_FAULT);
            }
            if (isRoomless(keyword)) {
                return fail(ROOM_FAULT);
            }
            onceTold |= 1 << keyword;
            switch (keyword) {
                case PERSON:
                    return readPerson();
                case DREAMS:
                    return readDreams();
                case FACT:
                    return readPersonAndDay(town.facts);
                case TALK:
                    return readTalk();
                case NAP:
                    return readPersonAndDay(town.naps);
                case DULL:
                    return readDull();
                case WANT:
                    return readWish(1);
                case HIDE:
                    return readWish(0);
                case TRADE:
                    return readTrade();
                default:
                    return readSetting(keyword);
            }
        }

        private int keyword() {
            if (tokens.isWord("person")) {
                return PERSON;
            }
            if (tokens.isWord("dreams")) {
                return DREAMS;
            }
            if (tokens.isWord("fact")) {
                return FACT;
            }
            if (tokens.isWord("talk")) {
                return TALK;
            }
            if (tokens.isWord("nap")) {
                return NAP;
            }
            if (tokens.isWord("dull")) {
                return DULL;
            }
            if (tokens.isWord("want")) {
                return WANT;
            }
            if (tokens.isWord("hide")) {
                return HIDE;
            }
            return rareKeyword();
        }

        private int rareKeyword() {
            if (tokens.isWord("trade")) {
                return TRADE;
            }
            if (tokens.isWord("law")) {
                return LAW;
            }
            if (tokens.isWord("deep")) {
                return DEEP;
            }
            return tokens.isWord("year") ? YEAR : NONE;
        }

        private static boolean isOnce(int keyword) {
            return keyword == LAW || keyword == DEEP || keyword == YEAR;
        }

        private boolean isRoomless(int keyword) {
            switch (keyword) {
                case PERSON:
                    return town.people >= MOST_PEOPLE;
                case FACT:
                    return town.facts.isFull();
                case TALK:
                    return town.talks.isFull();
                case NAP:
                    return town.naps.isFull();
                case DULL:
                    return town.dulls.isFull();
                case WANT:
                case HIDE:
                    return town.wishes.isFull();
                default:
                    return false;
            }
        }

        private boolean readMark() {
            tokens.advance();
            return tokens.kind == Tokens.MARK || fail(SYNTAX_FAULT);
        }

        private boolean readPerson() {
            tokens.advance();
            if (tokens.kind != Tokens.WORD) {
                return fail(SYNTAX_FAULT);
            }
            if (town.personOf(tokens.word) != NONE) {
                return fail(TWICE_FAULT);
            }
            town.addPerson(tokens.word);
            tokens.advance();
            if (tokens.isWord("alone")) {
                town.alone |= 1 << town.people - 1;
                return readMark();
            }
            return tokens.kind == Tokens.MARK || fail(SYNTAX_FAULT);
        }

        /** The number of the person who is named next, NONE behind a fault. */
        private int readNamed() {
            tokens.advance();
            if (tokens.kind != Tokens.WORD) {
                fail(SYNTAX_FAULT);
                return NONE;
            }
            int person = town.personOf(tokens.word);
            if (person == NONE) {
                fail(UNKNOWN_FAULT);
            }
            return person;
        }

        private int readBetween(int low, int high) {
            tokens.advance();
            if (tokens.kind != Tokens.NUMBER) {
                fail(SYNTAX_FAULT);
                return NONE;
            }
            if (tokens.value < low || tokens.value > high) {
                fail(RANGE_FAULT);
                return NONE;
            }
            return tokens.value;
        }

        private boolean readDreams() {
            int first = readNamed();
            if (!town.isPerson(first)) {
                return false;
            }
            if (town.isAlone(first)) {
                return fail(UNKNOWN_FAULT);
            }
            if (town.toldDreams[first] != NONE) {
                return fail(TWICE_FAULT);
            }
            int second = readNamed();
            if (!town.isPerson(second)) {
                return false;
            }
            if (town.isAlone(second)) {
                return fail(UNKNOWN_FAULT);
            }
            if (second == first || (town.dreamt >> second & 1) != 0) {
                return fail(TWICE_FAULT);
            }
            town.toldDreams[first] = second;
            town.dreamt |= 1 << second;
            return readMark();
        }

        private boolean readPersonAndDay(Rows rows) {
            int person = readNamed();
            if (person == NONE) {
                return false;
            }
            int day = readBetween(0, DAYS - 1);
            if (day == NONE) {
                return false;
            }
            rows.add(person, day, 0, 0);
            return readMark();
        }

        private boolean readTalk() {
            int first = readNamed();
            if (first == NONE) {
                return false;
            }
            int second = readNamed();
            if (second == NONE) {
                return false;
            }
            if (second == first) {
                return fail(TWICE_FAULT);
            }
            int every = readBetween(1, DAYS);
            if (every == NONE) {
                return false;
            }
            town.talks.add(first, second, every, 0);
            return readMark();
        }

        private boolean readDull() {
            int person = readNamed();
            if (person == NONE) {
                return false;
            }
            int first = readBetween(0, DAYS - 1);
            if (first == NONE) {
                return false;
            }
            int last = readBetween(first, DAYS - 1);
            if (last == NONE) {
                return false;
            }
            town.dulls.add(person, first, last, 0);
            return readMark();
        }

        private boolean readWish(int wanted) {
            int person = readNamed();
            if (person == NONE) {
                return false;
            }
            int fact = readBetween(0, MOST_FACTS - 1);
            if (fact == NONE) {
                return false;
            }
            int day = readBetween(0, DAYS - 1);
            if (day == NONE) {
                return false;
            }
            town.wishes.add(wanted, person, fact, day);
            return readMark();
        }

        private boolean readTrade() {
            int person = readNamed();
            if (!town.isPerson(person)) {
                return false;
            }
            if ((town.traded >> person & 1) != 0) {
                return fail(TWICE_FAULT);
            }
            int practice = readBetween(0, 99);
            if (practice == NONE) {
                return false;
            }
            town.trades[person] = practice;
            town.traded |= 1 << person;
            return readMark();
        }

        private boolean readSetting(int keyword) {
            boolean isYear = keyword == YEAR;
            int value = isYear ? readBetween(1, DAYS) : readBetween(0, (1 << MOST_FACTS) - 1);
            if (value == NONE) {
                return false;
            }
            if (isYear) {
                town.year = value;
            } else if (keyword == LAW) {
                town.law = value;
            } else {
                town.deep = value;
            }
            return readMark();
        }
    }

    /**
     * All turnings of a town. One is a row: four bits for each person, the number of whom that one
     * dreams, or 15 for nobody.
     */
    private static final class Turnings {
        static final int EMPTY_ROW = -1;
        private static final int NOBODY = 15;

        private final int[] dreamers = new int[MOST_PEOPLE];
        /** Whom each may dream, as bits. */
        private final int[] open = new int[MOST_PEOPLE];
        /** By those who are dreamt already, as bits: in how many ways the others may dream. */
        private final int[] ways = new int[1 << MOST_PEOPLE];
        private int size;

        static int dreamOf(int row, int person) {
            int dreamt = row >>> 4 * person & NOBODY;
            return dreamt == NOBODY ? NONE : dreamt;
        }

        static int withDream(int row, int person, int dreamt) {
            int shift = 4 * person;
            return row & ~(NOBODY << shift) | (dreamt & NOBODY) << shift;
        }

        void prepare(Town town) {
            size = 0;
            int all = (1 << town.people) - 1 & ~town.alone;
            for (int person = 0; person < town.people; person++) {
                if (!town.isAlone(person)) {
                    dreamers[size] = person;
                    size++;
                    int told = town.toldDreamOf(person);
                    open[person] = told != NONE ? 1 << told : all & ~town.dreamt & ~(1 << person);
                }
            }
            for (int used = ways.length - 1; used >= 0; used--) {
                ways[used] = (used & ~all) != 0 ? 0 : waysOn(used);
            }
        }

        private int waysOn(int used) {
            int turn = Integer.bitCount(used);
            if (turn >= size) {
                return 1;
            }
            int free = open[dreamers[turn]] & ~used;
            int sum = 0;
            for (int person = 0; person < MOST_PEOPLE; person++) {
                if ((free >> person & 1) != 0) {
                    sum += ways[used | 1 << person];
                }
            }
            return sum;
        }

        int howMany() {
            return ways[0];
        }

        int rowOf(int number) {
            int row = EMPTY_ROW;
            int used = 0;
            int left = number;
            for (int i = 0; i < size; i++) {
                int free = open[dreamers[i]] & ~used;
                for (int person = 0; person < MOST_PEOPLE; person++) {
                    if ((free >> person & 1) != 0) {
                        int many = ways[used | 1 << person];
                        if (left < many) {
                            row = withDream(row, dreamers[i], person);
                            used |= 1 << person;
                            break;
                        }
                        left -= many;
                    }
                }
            }
            return row;
        }

        int numberOf(int row) {
            int number = 0;
            int used = 0;
            for (int i = 0; i < size; i++) {
                int free = open[dreamers[i]] & ~used;
                int dreamt = dreamOf(row, dreamers[i]);
                if (dreamt == NONE || (free >> dreamt & 1) == 0) {
                    return NONE;
                }
                for (int person = 0; person < dreamt && person < MOST_PEOPLE; person++) {
                    if ((free >> person & 1) != 0) {
                        number += ways[used | 1 << person];
                    }
                }
                used |= 1 << dreamt;
            }
            return number;
        }

        void fillRows(int[] rows) {
            fillFrom(0, 0, EMPTY_ROW, rows, 0);
        }

        /** Dreams are chosen for the dreamers behind the first i; how many rows are filled then. */
        private int fillFrom(int i, int used, int row, int[] rows, int filled) {
            if (i >= size || i >= MOST_PEOPLE) {
                if (filled < rows.length) {
                    rows[filled] = row;
                }
                return filled + 1;
            }
            int dreamer = dreamers[i];
            int free = open[dreamer] & ~used;
            int many = filled;
            for (int person = 0; person < MOST_PEOPLE; person++) {
                int next = used | 1 << person;
                if ((free >> person & 1) != 0 && ways[next] > 0) {
                    many = fillFrom(i + 1, next, withDream(row, dreamer, person), rows, many);
                }
            }
            return many;
        }
    }

    /**
     * How one fact goes about by one turning. Facts don't touch one another, so each goes alone:
     * those who know it are bits of one number.
     */
    private static final class Spread {
        private final int[] dullOn = new int[DAYS];
        private final int[] napsOn = new int[DAYS];
        private final int[] talksOn = new int[DAYS];
        private final int[] dreamt = new int[MOST_PEOPLE];
        private final int[] dreamerBits = new int[MOST_PEOPLE];
        private final int[] nappers = new int[MOST_ROWS];
        private final int[] talkers = new int[MOST_ROWS];
        private Town town;
        private int factDay;
        private int ownerBit;
        private int moreDull;
        private boolean isByNights;
        private boolean isByTalks;
        private boolean isByNaps;
        private int comingDay;
        private int comingWay;
        private int comingFrom;

        Spread(Town town) {
            this.town = town;
        }

        void setTown(Town told) {
            town = told;
            for (int i = 0; i < town.naps.size && i < nappers.length; i++) {
                nappers[i] = town.naps.at(i, 0);
            }
            for (int i = 0; i < town.talks.size && i < talkers.length; i++) {
                talkers[i] = 1 << town.talks.at(i, 0) | 1 << town.talks.at(i, 1);
            }
            for (int day = 0; day < DAYS; day++) {
                dullOn[day] = town.dullOn(day);
                napsOn[day] = napsOf(day);
                talksOn[day] = talksOf(day);
            }
        }

        private int napsOf(int day) {
            int bits = 0;
            for (int i = 0; i < town.naps.size; i++) {
                if (town.naps.at(i, 1) == day) {
                    bits |= 1 << i;
                }
            }
            return bits;
        }

        private int talksOf(int day) {
            int bits = 0;
            for (int i = 0; i < town.talks.size; i++) {
                int every = town.talks.at(i, 2);
                if (every > 0 && day % every == 0) {
                    bits |= 1 << i;
                }
            }
            return bits;
        }

        void setTurning(int row) {
            Arrays.fill(dreamerBits, 0);
            for (int person = 0; person < MOST_PEOPLE; person++) {
                int other = Turnings.dreamOf(row, person);
                dreamt[person] = other;
                if (other >= 0 && other < MOST_PEOPLE) {
                    dreamerBits[other] = 1 << person;
                }
            }
        }

        void setFact(int fact, int ways, int dull) {
            boolean isDeep = (town.deep >> fact & 1) != 0;
            boolean isLawful = (town.law >> fact & 1) == 0;
            boolean isTold = town.isFact(fact);
            factDay = isTold ? town.facts.at(fact, 1) : DAYS;
            ownerBit = isTold ? 1 << town.facts.at(fact, 0) : 0;
            moreDull = dull;
            isByNights = (ways & NIGHTS) != 0 && !isDeep;
            isByTalks = (ways & TALKS) != 0 && isLawful;
            isByNaps = (ways & NAPS) != 0 && !isDeep;
        }

        private int byItself(int knowing, int day) {
            return day == factDay ? knowing | ownerBit : knowing;
        }

        private int byNaps(int knowing, int day) {
            if (!isByNaps || day < 0 || day >= DAYS || napsOn[day] == 0) {
                return knowing;
            }
            int after = knowing;
            int dull = dullOn[day] | moreDull;
            for (int i = 0; i < nappers.length; i++) {
                int napper = nappers[i];
                boolean isHeld = (napsOn[day] >> i & 1) != 0;
                if (isHeld && napper >= 0 && napper < dreamt.length) {
                    int other = dreamt[napper];
                    if (other != NONE && ((after & ~dull) >> other & 1) != 0) {
                        after |= 1 << napper;
                    }
                }
            }
            return after;
        }

        /** By those talks of the day whose numbers are from the first up to below the last. */
        private int byTalks(int knowing, int day, int first, int last) {
            if (!isByTalks || day < 0 || day >= DAYS || talksOn[day] == 0) {
                return knowing;
            }
            int after = knowing;
            for (int i = first; i >= 0 && i < last && i < talkers.length; i++) {
                boolean isHeld = (talksOn[day] >> i & 1) != 0;
                if (isHeld && (after & talkers[i]) != 0) {
                    after |= talkers[i];
                }
            }
            return after;
        }

        /** Who knows at a day's end, ahead of its night. */
        int byDay(int knowing, int day) {
            if (day < 0 || day >= DAYS) {
                return knowing;
            }
            if ((napsOn[day] | talksOn[day]) == 0) {
                return byItself(knowing, day);
            }
            return byTalks(byNaps(byItself(knowing, day), day), day, 0, MOST_ROWS);
        }

        int byNight(int knowing, int day) {
            if (!isByNights || day < 0 || day >= DAYS) {
                return knowing;
            }
            int after = knowing;
            int seen = knowing & ~(dullOn[day] | moreDull);
            for (int person = 0; person < MOST_PEOPLE && seen >> person != 0; person++) {
                if ((seen >> person & 1) != 0) {
                    after |= dreamerBits[person];
                }
            }
            return after;
        }

        /** Nobody knows ahead of the fact's own day, so days are counted from that one. */
        int aheadOfNight(int lastDay) {
            int knowing = 0;
            for (int day = factDay; day < lastDay && day < DAYS; day++) {
                knowing = byNight(byDay(knowing, day), day);
            }
            return lastDay < factDay ? 0 : byDay(knowing, lastDay);
        }

        int behind(int day) {
            return byNight(aheadOfNight(day), day);
        }

        int firstDayOfAll() {
            int everyone = (1 << town.people) - 1;
            int knowing = 0;
            for (int day = factDay; day < DAYS; day++) {
                knowing = byNight(byDay(knowing, day), day);
                if (knowing == everyone) {
                    return day;
                }
            }
            return NONE;
        }

        boolean findComing(int person) {
            int knowing = 0;
            for (int day = factDay; day < DAYS; day++) {
                comingDay = day;
                knowing = byItself(knowing, day);
                if (isComing(knowing, person, 0, NONE)) {
                    return true;
                }
                knowing = byNaps(knowing, day);
                if (isComing(knowing, person, 1, dreamt[person])) {
                    return true;
                }
                for (int i = 0; i < talkers.length; i++) {
                    knowing = byTalks(knowing, day, i, i + 1);
                    if (isComing(knowing, person, 2, partnerOf(i, person))) {
                        return true;
                    }
                }
                knowing = byNight(knowing, day);
                if (isComing(knowing, person, 3, dreamt[person])) {
                    return true;
                }
            }
            return false;
        }

        private boolean isComing(int knowing, int person, int way, int from) {
            comingWay = way;
            comingFrom = from;
            return (knowing >> person & 1) != 0;
        }

        private int partnerOf(int talk, int person) {
            int first = town.talks.at(talk, 0);
            return first == person ? town.talks.at(talk, 1) : first;
        }

        /**
         * When each comes to know the fact, in bytes, person 0 the lowest: twice the day, and one
         * more if it is in its night; 255 for never.
         */
        long comings() {
            long moments = -1L;
            int knowing = 0;
            for (int day = factDay; day < DAYS; day++) {
                int ahead = byDay(knowing, day);
                int behind = byNight(ahead, day);
                if (ahead != knowing) {
                    moments = withMoment(moments, ahead & ~knowing, 2 * day);
                }
                if (behind != ahead) {
                    moments = withMoment(moments, behind & ~ahead, 2 * day + 1);
                } else if (ahead == knowing && isStill(knowing)) {
                    return moments;
                }
                knowing = behind;
            }
            return moments;
        }

        private static long withMoment(long moments, int people, int moment) {
            long after = moments;
            for (int person = 0; person < MOST_PEOPLE && people >> person != 0; person++) {
                if ((people >> person & 1) != 0) {
                    int shift = 8 * person;
                    after = after & ~(255L << shift) | (long) moment << shift;
                }
            }
            return after;
        }

        /** Whether no later day can bring the fact to anybody else. */
        private boolean isStill(int knowing) {
            boolean isDreamt = isByNights || isByNaps;
            for (int person = 0; isDreamt && person < MOST_PEOPLE; person++) {
                boolean isKnown = (knowing >> person & 1) != 0;
                if (isKnown && (dreamerBits[person] & ~knowing) != 0) {
                    return false;
                }
            }
            for (int i = 0; isByTalks && i < town.talks.size && i < talkers.length; i++) {
                int both = knowing & talkers[i];
                if (both != 0 && both != talkers[i]) {
                    return false;
                }
            }
            return true;
        }
    }

    /** Acts told and put right, by the steps at which it was done. */
    private static final class Acts {
        private static final int MOST_ACTS = 16;
        private static final int MOST_RIGHTS = 20;

        private final int[] steps = new int[MOST_ACTS];
        private final int[] days = new int[MOST_ACTS];
        private final int[] persons = new int[MOST_ACTS];
        private final int[] facts = new int[MOST_ACTS];
        private final int[] knew = new int[MOST_ACTS];
        private final int[] rightSteps = new int[MOST_RIGHTS];
        private final int[] rightActs = new int[MOST_RIGHTS];
        private final int[] rightKnew = new int[MOST_RIGHTS];
        private int size;
        private int rightsSize;
        private int latest;

        void clear() {
            size = 0;
            rightsSize = 0;
            latest = 0;
        }

        boolean mayBeTold(int step, int whether) {
            return step >= latest && isStep(step) && (whether == 0 || whether == 1);
        }

        boolean hasRoomForAct() {
            return size < MOST_ACTS;
        }

        boolean hasRoomForRight() {
            return rightsSize < MOST_RIGHTS;
        }

        int addAct(int step, int day, int person, int fact, int whether) {
            if (!hasRoomForAct()) {
                return FULL;
            }
            latest = step;
            steps[size] = step;
            days[size] = day;
            persons[size] = person;
            facts[size] = fact;
            knew[size] = whether;
            size++;
            return size - 1;
        }

        /** How often that act has been put right. */
        int addRight(int step, int act, int whether) {
            if (!hasRoomForRight()) {
                return FULL;
            }
            latest = step;
            rightSteps[rightsSize] = step;
            rightActs[rightsSize] = act;
            rightKnew[rightsSize] = whether;
            rightsSize++;
            int often = 0;
            for (int i = 0; i < rightsSize; i++) {
                if (rightActs[i] == act) {
                    often++;
                }
            }
            return often;
        }

        /** Steps never fall, so acts that are known at one are the first ones. */
        int knownAt(int step) {
            int known = 0;
            while (known < size && steps[known] <= step) {
                known++;
            }
            return known;
        }

        /** Whether the person knew, as the act stands at a step. */
        int knewAt(int act, int step) {
            if (act < 0 || act >= size) {
                return NONE;
            }
            int whether = knew[act];
            for (int i = 0; i < rightsSize && rightSteps[i] <= step; i++) {
                if (rightActs[i] == act) {
                    whether = rightKnew[i];
                }
            }
            return whether;
        }
    }

    /**
     * What holds over all turnings of a town. When a fact comes to whom is found once for each
     * turning and kept, as long as the town stays; room for it is made when it is first needed.
     */
    private static final class Census {
        private static final int MOST_TURNINGS = 14833;
        private static final int MOMENTS = 2 * DAYS;
        private static final int NEVER = 255;

        private final Spread spread;
        private final Acts acts;
        /** By fact and turning, as Spread.comings tells it. */
        private final long[][] moments = new long[MOST_FACTS][0];
        private final int[] cameAt = new int[MOMENTS];
        private final int[] values = new int[Acts.MOST_ACTS];
        private Town town;
        private int[] rows = new int[0];
        private int[] fitting = new int[0];
        private int fittingSize;
        private int size;
        private int found;
        private boolean isAsked;
        private int askPerson;
        private int askFact;
        private int askDay;

        Census(Town town, Spread spread, Acts acts) {
            this.town = town;
            this.spread = spread;
            this.acts = acts;
        }

        void setTown(Town told) {
            town = told;
            size = 0;
            found = 0;
            isAsked = false;
        }

        /** Rooms grow by doubling at least, so that many towns need few of them. */
        private static int roomFor(int had, int needed) {
            return Math.max(needed, Math.min(2 * had, MOST_TURNINGS));
        }

        private void listTurnings() {
            int needed = town.turnings.howMany();
            if (size == needed) {
                return;
            }
            if (rows.length < needed) {
                int room = roomFor(rows.length, needed);
                rows = new int[room];
                fitting = new int[room];
            }
            town.turnings.fillRows(rows);
            size = needed;
        }

        /** Finds, for facts as bits, when each comes to whom, but for those found before. */
        private void findComings(int facts) {
            listTurnings();
            int missing = facts & ~found & (1 << town.facts.size) - 1;
            if (missing == 0) {
                return;
            }
            for (int fact = 0; fact < MOST_FACTS; fact++) {
                int had = moments[fact].length;
                if ((missing >> fact & 1) != 0 && had < size) {
                    moments[fact] = new long[roomFor(had, size)];
                }
            }
            for (int turning = 0; turning < size && turning < rows.length; turning++) {
                spread.setTurning(rows[turning]);
                findComingsBy(turning, missing);
            }
            found |= missing;
        }

        private void findComingsBy(int turning, int facts) {
            for (int fact = 0; fact < MOST_FACTS && facts >> fact != 0; fact++) {
                if ((facts >> fact & 1) != 0 && turning < moments[fact].length) {
                    spread.setFact(fact, ALL_WAYS, 0);
                    moments[fact][turning] = spread.comings();
                }
            }
        }

        private long[] lineOf(int fact) {
            return moments[fact >= 0 && fact < MOST_FACTS ? fact : 0];
        }

        private static int momentIn(long[] line, int turning, int person) {
            if (turning < 0 || turning >= line.length) {
                return NEVER;
            }
            return (int) (line[turning] >>> 8 * person) & 255;
        }

        void findFitting(int step) {
            int known = acts.knownAt(step);
            int facts = 0;
            for (int i = 0; i < known && i < values.length; i++) {
                values[i] = acts.knewAt(i, step);
                facts |= 1 << acts.facts[i];
            }
            findComings(facts);
            fittingSize = 0;
            for (int turning = 0; turning < size && turning < fitting.length; turning++) {
                if (isFitting(turning, known)) {
                    fitting[fittingSize] = turning;
                    fittingSize++;
                }
            }
        }

        private boolean isFitting(int turning, int known) {
            for (int i = 0; i < known && i < values.length; i++) {
                int moment = momentIn(lineOf(acts.facts[i]), turning, acts.persons[i]);
                int knew = moment <= 2 * acts.days[i] ? 1 : 0;
                if (knew != values[i]) {
                    return false;
                }
            }
            return true;
        }

        int leastFitting() {
            return fittingSize > 0 ? fitting[0] : NONE;
        }

        int greatestFitting() {
            return fittingSize > 0 ? fitting[fittingSize - 1] : NONE;
        }

        int mayDream(int person) {
            int bits = 0;
            for (int i = 0; i < fittingSize && i < fitting.length; i++) {
                int dreamt = Turnings.dreamOf(rowAt(fitting[i]), person);
                if (dreamt != NONE) {
                    bits |= 1 << dreamt;
                }
            }
            return bits;
        }

        private int rowAt(int turning) {
            return turning >= 0 && turning < rows.length ? rows[turning] : Turnings.EMPTY_ROW;
        }

        int surelyKnowing(int fact, int day) {
            findComings(1 << fact);
            int bits = fittingSize > 0 ? (1 << town.people) - 1 : 0;
            for (int i = 0; i < fittingSize && i < fitting.length; i++) {
                bits &= knowingBehind(fact, fitting[i], day);
            }
            return bits;
        }

        int perhapsKnowing(int fact, int day) {
            findComings(1 << fact);
            int bits = 0;
            for (int i = 0; i < fittingSize && i < fitting.length; i++) {
                bits |= knowingBehind(fact, fitting[i], day);
            }
            return bits;
        }

        private int knowingBehind(int fact, int turning, int day) {
            int bits = 0;
            long[] line = lineOf(fact);
            for (int person = 0; person < town.people; person++) {
                if (momentIn(line, turning, person) <= 2 * day + 1) {
                    bits |= 1 << person;
                }
            }
            return bits;
        }

        int knowingInAll(int fact, int day) {
            findComings(1 << fact);
            int sum = 0;
            for (int turning = 0; turning < size; turning++) {
                sum += Integer.bitCount(knowingBehind(fact, turning, day));
            }
            return sum;
        }

        int turningsOfAll(int fact, int day) {
            findComings(1 << fact);
            int many = 0;
            for (int turning = 0; turning < size; turning++) {
                if (dayOfAll(fact, turning) <= day) {
                    many++;
                }
            }
            return many;
        }

        int firstDaysInAll(int fact) {
            findComings(1 << fact);
            int sum = 0;
            for (int turning = 0; turning < size; turning++) {
                sum += dayOfAll(fact, turning);
            }
            return sum;
        }

        private int dayOfAll(int fact, int turning) {
            int last = 0;
            long[] line = lineOf(fact);
            for (int person = 0; person < town.people; person++) {
                last = Math.max(last, momentIn(line, turning, person));
            }
            return Math.min(last / 2, DAYS);
        }

        /** The answer is kept, as it is asked for in three parts. */
        void choose(int step) {
            if (isAsked) {
                return;
            }
            isAsked = true;
            askPerson = NONE;
            askFact = NONE;
            askDay = NONE;
            findComings((1 << MOST_FACTS) - 1);
            findFitting(step);
            int least = fittingSize;
            for (int person = 0; person < town.people; person++) {
                for (int fact = 0; fact < town.facts.size; fact++) {
                    least = chooseDay(person, fact, least);
                }
            }
        }

        /** Takes the best day of a person and fact if it beats all earlier ones. */
        private int chooseDay(int person, int fact, int leastSoFar) {
            Arrays.fill(cameAt, 0);
            long[] line = lineOf(fact);
            for (int i = 0; i < fittingSize && i < fitting.length; i++) {
                int moment = momentIn(line, fitting[i], person);
                if (moment < cameAt.length) {
                    cameAt[moment]++;
                }
            }
            int least = leastSoFar;
            int knowing = 0;
            for (int moment = 0; moment < cameAt.length; moment++) {
                knowing += cameAt[moment];
                int greater = Math.max(knowing, fittingSize - knowing);
                if (moment % 2 == 0 && greater < least) {
                    least = greater;
                    askPerson = person;
                    askFact = fact;
                    askDay = moment / 2;
                }
            }
            return least;
        }
    }

    /** A run through years. */
    private static final class Run {
        private static final int GREATEST_SEED = 2147483647;

        private final int[] knowing = new int[MOST_FACTS];
        private boolean isOn;
        private int seed;
        private int row;
        private int passed;

        void start(int firstSeed, int turning) {
            isOn = true;
            seed = firstSeed;
            row = turning;
            passed = 0;
            Arrays.fill(knowing, 0);
        }

        void copyFrom(Run other) {
            isOn = other.isOn;
            seed = other.seed;
            row = other.row;
            passed = other.passed;
            System.arraycopy(other.knowing, 0, knowing, 0, MOST_FACTS);
        }

        int knownTo(int person) {
            int bits = 0;
            for (int fact = 0; fact < MOST_FACTS; fact++) {
                bits |= (knowing[fact] >> person & 1) << fact;
            }
            return bits;
        }

        void pass(int days, Town town, Spread spread) {
            int year = Math.max(1, town.year);
            spread.setTurning(row);
            for (int i = 0; i < days; i++) {
                int day = passed % year;
                for (int fact = 0; fact < town.facts.size && fact < MOST_FACTS; fact++) {
                    spread.setFact(fact, ALL_WAYS, 0);
                    int ahead = spread.byDay(knowing[fact], day);
                    knowing[fact] = spread.byNight(ahead, day);
                }
                passed++;
                if (day == year - 1) {
                    row = town.turnings.rowOf(drawn(town.turnings.howMany()));
                    spread.setTurning(row);
                }
            }
        }

        private int drawn(int many) {
            seed = 1103515245 * seed + 12345 & GREATEST_SEED;
            return many > 0 ? (seed >>> 16) % many : 0;
        }
    }
}
