/** Edges of runs (term IV) and of promises 34 to 39, sentence by sentence. */
public final class EdgesRunTest {
    private static final int[] SEEDS = {0, 1, 12345, 1 << 30, Integer.MAX_VALUE - 1, Integer.MAX_VALUE};

    public static void main(String[] args) {
        Check c = new Check();
        beginRange(c);
        beginRefused(c);
        beginsAnew(c);
        beginsWithTheTurning(c);
        daysOfAYear(c);
        byAllWays(c);
        daysBeyondTheYear(c);
        behindTheLastDay(c);
        theSeed(c);
        whatIsKnownStays(c);
        theTurningStays(c);
        goDays(c);
        goRange(c);
        goState(c);
        nowOfThePerson(c);
        nowNone(c);
        nowRange(c);
        keepDays(c);
        keepRange(c);
        keepState(c);
        takeDays(c);
        takeRange(c);
        takeState(c);
        counts(c);
        countOthers(c);
        c.end("EdgesRunTest");
    }

    private static long next(long s) {
        return (1103515245L * s + 12345) % 2147483648L;
    }

    /** Whom each dreams now in the run. */
    private static String row(WhoseDay x) {
        StringBuilder b = new StringBuilder();
        for (int p = 0; p < x.told(0); p++) {
            b.append(x.now(p, 1));
        }
        return b.toString();
    }

    private static String rowOf(WhoseDay other, int number) {
        other.turn(number);
        return Check.row(other);
    }

    // ---- 34

    private static void beginRange(Check c) {
        c.says("34: A RUN by a seed (0 .. 2147483647) begins: 1; RANGE");
        WhoseDay x = new WhoseDay();
        c.due("begin(0)", x.begin(0), 1);
        c.due("begin(2147483647)", x.begin(2147483647), 1);
        c.due("begin(-1)", x.begin(-1), WhoseDay.RANGE);
        c.due("begin(-2147483648)", x.begin(Integer.MIN_VALUE), WhoseDay.RANGE);
    }

    private static void beginRefused(Check c) {
        c.says("34: RANGE (a refused call changes nothing)");
        WhoseDay x = Check.in(Check.people(2) + "fact a 0;");
        x.begin(-1);
        c.due("go(0), no RUN yet", x.go(0), WhoseDay.STATE);
        x.begin(1);
        x.go(3);
        x.begin(-1);
        c.due("count(3)", x.count(3), 3);
        c.due("now(1, 0)", x.now(1, 0), 1);
        c.due("go(1)", x.go(1), 4);
    }

    private static void beginsAnew(Check c) {
        c.says("IV: It begins with THE TURNING, nobody knowing anything");
        WhoseDay x = Check.in(Check.people(3) + "fact a 0;fact b 1;year 2;");
        for (int i = 0; i < 3; i++) {
            c.due("begin", x.begin(7), 1);
            c.due("count(3)", x.count(3), 0);
            for (int p = 0; p < 3; p++) {
                c.due("now(" + p + ", 0)", x.now(p, 0), 0);
            }
            c.dueRow("now(.., 1)", row(x), "120");
            x.go(9);
            c.due("now(0, 0)", x.now(0, 0) & 1, 1);
        }
    }

    private static void beginsWithTheTurning(Check c) {
        c.says("IV: It begins with THE TURNING");
        WhoseDay x = Check.in(Check.people(4) + "fact a 0;");
        for (int number = 0; number < 9; number++) {
            x.turn(number);
            x.begin(5);
            c.dueRow("turning " + number, row(x), Check.row(x));
            x.go(1);
            for (int p = 1; p < 4; p++) {
                c.due("now(" + p + ", 0) by " + number, x.now(p, 0), x.dreams(p) == 0 ? 1 : 0);
            }
        }
        x.turn(2);
        c.dueRow("it is the run's own, behind turn", row(x), "3210");
    }

    // ---- days

    private static void daysOfAYear(Check c) {
        c.says("IV: DAYS 0, 1, .. of a year, as told");
        WhoseDay x = Check.in(Check.people(3) + "person d alone;fact a 0;fact b 26;fact c 27;dull a 0 1;talk c d 5;nap b 4;"
            + "dull c 9 9;");
        x.begin(3);
        for (int day = 0; day < 28; day++) {
            c.due("go(1)", x.go(1), day + 1);
            for (int p = 0; p < 4; p++) {
                c.due("now(" + p + ", 0) behind " + day, x.now(p, 0), x.knows(p, day, 7));
            }
        }
        c.says("IV: DAYS 0, 1, .. of a year (the next one begins with DAY 0)");
        WhoseDay y = Check.in("person a;person b;person c alone;fact a 1;talk a c 3;year 3;");
        y.begin(0);
        y.go(3);
        c.due("a talk on day 0 alone", y.now(2, 0), 0);
        y.go(1);
        c.due("a talk on day 0 of the next year", y.now(2, 0), 1);
        WhoseDay z = Check.in("person a;person b;fact a 1;dull a 1 1;dull a 0 0;year 2;");
        z.begin(0);
        z.go(200);
        c.due("dull on all days of the year", z.now(1, 0), 0);
        WhoseDay w = Check.in("person a;person b;fact a 1;dull a 1 1;nap b 0;year 2;");
        w.begin(0);
        w.go(2);
        c.due("ahead of the nap of the next year", w.now(1, 0), 0);
        w.go(1);
        c.due("by the nap of the next year", w.now(1, 0), 1);
    }

    private static void byAllWays(Check c) {
        c.says("IV: .. by all WAYS");
        String three = "person a;person b;person c alone;";
        WhoseDay night = Check.in(three + "fact a 0;");
        night.begin(0);
        night.go(1);
        c.due("by night", night.now(1, 0), 1);
        WhoseDay talk = Check.in(three + "fact a 0;talk a c 1;deep 1;");
        talk.begin(0);
        talk.go(1);
        c.due("by a talk", talk.now(2, 0), 1);
        c.due("not by night, as it is deep", talk.now(1, 0), 0);
        WhoseDay nap = Check.in(Check.people(3) + "fact a 0;nap c 0;law 1;talk a b 1;");
        nap.begin(0);
        nap.go(1);
        c.due("by a nap, and on in the night", nap.now(1, 0), 1);
    }

    private static void daysBeyondTheYear(Check c) {
        c.says("I: year: how many DAYS one has in a RUN 1 .. 28");
        for (int year = 1; year <= 28; year++) {
            WhoseDay x = Check.in(Check.people(2) + "person c alone;fact c " + (year - 1) + ";fact c "
                + Math.min(27, year) + ";year " + year + ";");
            x.begin(9);
            x.go(year - 1);
            c.due("ahead of the last day of " + year, x.now(2, 0), 0);
            x.go(1);
            c.due("behind the last day of " + year, x.now(2, 0), year == 28 ? 3 : 1);
            x.go(200);
            c.due("a day that no year has", x.now(2, 0), year == 28 ? 3 : 1);
        }
    }

    private static void behindTheLastDay(Check c) {
        c.says("IV: behind the last DAY of each year .. the TURNING of the RUN becomes the one of the number "
            + "that is drawn");
        WhoseDay other = Check.in(Check.people(8));
        for (int year : new int[] {1, 2, 7, 27, 28}) {
            WhoseDay x = Check.in(Check.people(8) + "year " + year + ";");
            long s = 4;
            x.begin(4);
            String ahead = rowOf(other, 0);
            for (int i = 0; i < 3; i++) {
                x.go(year - 1);
                c.dueRow("within year " + i + " of " + year, row(x), ahead);
                x.go(1);
                s = next(s);
                ahead = rowOf(other, (int) (s / 65536 % 14833));
                c.dueRow("behind year " + i + " of " + year, row(x), ahead);
            }
        }
        WhoseDay whole = Check.in(Check.people(8));
        whole.begin(4);
        whole.go(28);
        c.dueRow("28 DAYS where no year is told", row(whole), rowOf(other, (int) (next(4) / 65536 % 14833)));
    }

    private static void theSeed(Check c) {
        c.says("IV: s becomes (1103515245 times s and 12345) modulo 2147483648 each time; what is drawn of n "
            + "is s over 65536 (cut), modulo n");
        for (int people : new int[] {3, 4, 8}) {
            for (int seed : SEEDS) {
                WhoseDay other = Check.in(Check.people(people));
                WhoseDay x = Check.in(Check.people(people) + "year 1;");
                x.begin(seed);
                long s = seed;
                for (int i = 0; i < 16; i++) {
                    x.go(1);
                    s = next(s);
                    c.dueRow("seed " + seed + ", year " + i, row(x), rowOf(other, (int) (s / 65536 % x.turnings())));
                }
            }
        }
        c.says("IV: .. of how many there are (one, too)");
        WhoseDay one = Check.in(Check.people(2) + "year 1;");
        one.begin(Integer.MAX_VALUE);
        c.due("go(200)", one.go(200), 200);
        c.dueRow("the one", row(one), "10");
        WhoseDay none = new WhoseDay();
        none.begin(1);
        c.due("go(200) of nothing", none.go(200), 200);
        WhoseDay told = Check.in(Check.people(4) + "dreams a b;year 1;");
        told.begin(8);
        for (int i = 0; i < 20; i++) {
            told.go(1);
            c.due("as told by dreams", told.now(0, 1), 1);
        }
    }

    private static void whatIsKnownStays(Check c) {
        c.says("IV: behind the last DAY of each year what is known stays");
        WhoseDay x = Check.in(Check.people(3) + "person d alone;fact a 0;fact d 1;year 2;dull a 0 1;");
        x.begin(6);
        x.go(2);
        for (int i = 0; i < 5; i++) {
            c.due("now(0, 0)", x.now(0, 0), 1);
            c.due("now(1, 0)", x.now(1, 0), 0);
            c.due("now(3, 0)", x.now(3, 0), 2);
            x.go(1);
        }
        // year 1: a, then his dreamer by the first turning, then by the drawn ones
        WhoseDay y = Check.in(Check.people(3) + "fact a 0;year 1;");
        y.begin(2);
        y.go(1);
        c.due("c dreams a", y.now(2, 0), 1);
        c.due("b dreams c", y.now(1, 0), 0);
        y.go(1);
        c.due("by either turning now b, too", y.now(1, 0), 1);
    }

    private static void theTurningStays(Check c) {
        c.says("IV: (THE TURNING stays)");
        WhoseDay x = Check.in(Check.people(4) + "fact a 0;year 1;");
        x.turn(5);
        x.begin(3);
        for (int i = 0; i < 12; i++) {
            x.go(1);
            c.dueRow("THE TURNING", Check.row(x), "2310");
        }
        c.due("comes by THE TURNING: d, who dreams a", x.comes(3, 0, 7, 0), 0);
        x.begin(3);
        c.dueRow("the next RUN begins with it", row(x), "2310");
    }

    // ---- 35

    private static void goDays(Check c) {
        c.says("35: So many DAYS (0 .. 200) of the RUN pass: how many passed in all");
        WhoseDay x = Check.in(Check.people(2) + "fact a 0;");
        x.begin(1);
        c.due("go(0)", x.go(0), 0);
        c.due("nothing happens in no days", x.now(0, 0), 0);
        c.due("go(1)", x.go(1), 1);
        c.due("go(0) again", x.go(0), 1);
        c.due("go(200)", x.go(200), 201);
        c.due("go(199)", x.go(199), 400);
        c.due("count(3)", x.count(3), 400);
        // at once or one by one
        WhoseDay once = Check.in(Check.people(5) + "fact a 3;fact b 1;year 6;");
        WhoseDay apart = Check.in(Check.people(5) + "fact a 3;fact b 1;year 6;");
        once.begin(77);
        apart.begin(77);
        once.go(200);
        for (int i = 0; i < 200; i++) {
            apart.go(1);
        }
        c.dueRow("200 at once", row(once), row(apart));
    }

    private static void goRange(Check c) {
        c.says("35: RANGE");
        WhoseDay x = Check.in(Check.people(2) + "fact a 0;");
        x.begin(1);
        c.due("go(-1)", x.go(-1), WhoseDay.RANGE);
        c.due("go(201)", x.go(201), WhoseDay.RANGE);
        for (int far : Check.FAR) {
            c.due("go(" + far + ")", x.go(far), WhoseDay.RANGE);
        }
        c.due("nothing passed", x.count(3), 0);
        c.due("nothing is known", x.now(0, 0), 0);
    }

    private static void goState(Check c) {
        c.says("35: STATE: no RUN");
        WhoseDay x = new WhoseDay();
        c.due("go(0) of a new object", x.go(0), WhoseDay.STATE);
        c.due("go(200) of a new object", x.go(200), WhoseDay.STATE);
        x.begin(0);
        c.due("go(1)", x.go(1), 1);
        x.town();
        c.due("go(1) behind town()", x.go(1), WhoseDay.STATE);
    }

    // ---- 36

    private static void nowOfThePerson(Check c) {
        c.says("36: Of the RUN, of a PERSON, what 0: FACTS that it knows, as bits, 1: whom it dreams now (NONE)");
        WhoseDay x = Check.in(Check.people(2) + "person c alone;" + "fact a 0;".repeat(11) + "fact c 0;");
        x.begin(0);
        x.go(1);
        c.due("now(0, 0)", x.now(0, 0), 2047);
        c.due("now(1, 0)", x.now(1, 0), 2047);
        c.due("now(2, 0)", x.now(2, 0), 2048);
        c.due("now(0, 1)", x.now(0, 1), 1);
        c.due("now(1, 1)", x.now(1, 1), 0);
        c.due("now(2, 1) of one alone", x.now(2, 1), WhoseDay.NONE);
        x.go(28);
        c.due("now(2, 1) in the next year", x.now(2, 1), WhoseDay.NONE);
    }

    private static void nowNone(Check c) {
        c.says("36: NONE: no RUN");
        WhoseDay x = Check.in(Check.people(2) + "fact a 0;");
        for (int p = 0; p < 2; p++) {
            c.due("now(" + p + ", 0)", x.now(p, 0), WhoseDay.NONE);
            c.due("now(" + p + ", 1)", x.now(p, 1), WhoseDay.NONE);
        }
    }

    private static void nowRange(Check c) {
        c.says("36: RANGE (-2)");
        WhoseDay x = Check.in(Check.people(3));
        x.begin(0);
        int[][] wrong = {{-1, 0}, {3, 0}, {8, 1}, {0, -1}, {0, 2}};
        for (int[] w : wrong) {
            c.due("now(" + w[0] + ", " + w[1] + ")", x.now(w[0], w[1]), -2);
        }
        for (int far : Check.FAR) {
            c.due("now(far, 0)", x.now(far, 0), -2);
            c.due("now(0, far)", x.now(0, far), -2);
        }
        WhoseDay none = new WhoseDay();
        none.begin(0);
        c.due("now(0, 0) of nothing", none.now(0, 0), -2);
    }

    // ---- 37, 38

    private static WhoseDay running(int days) {
        WhoseDay x = Check.in(Check.people(5) + "fact a 1;fact b 3;fact e 0;year 4;");
        x.begin(31);
        for (int i = 0; i < days; i++) {
            x.go(1);
        }
        return x;
    }

    private static String whole(WhoseDay x) {
        StringBuilder b = new StringBuilder(row(x)).append(" ").append(x.count(3));
        for (int p = 0; p < x.told(0); p++) {
            b.append(" ").append(x.now(p, 0));
        }
        return b.toString();
    }

    private static void keepDays(Check c) {
        c.says("37: A SLOT (0 .. 2) keeps the RUN: how many DAYS passed");
        WhoseDay x = running(0);
        c.due("keep(0)", x.keep(0), 0);
        x.go(2);
        c.due("keep(1)", x.keep(1), 2);
        x.go(200);
        c.due("keep(2)", x.keep(2), 202);
        c.due("the RUN goes on", x.go(1), 203);
        int[] days = {0, 2, 202};
        for (int slot = 0; slot < 3; slot++) {
            c.due("take(" + slot + ")", x.take(slot), days[slot]);
            c.dueRow("as it was", whole(x), whole(running(days[slot])));
        }
        c.says("37: A SLOT keeps the RUN (another one over what it has)");
        x.begin(1);
        x.go(5);
        c.due("keep(1) over", x.keep(1), 5);
        x.go(9);
        c.due("take(1)", x.take(1), 5);
        c.due("take(0) is as it was", x.take(0), 0);
        c.due("take(2) is as it was", x.take(2), 202);
    }

    private static void keepRange(Check c) {
        c.says("37: RANGE");
        WhoseDay x = running(3);
        c.due("keep(-1)", x.keep(-1), WhoseDay.RANGE);
        c.due("keep(3)", x.keep(3), WhoseDay.RANGE);
        for (int far : Check.FAR) {
            c.due("keep(" + far + ")", x.keep(far), WhoseDay.RANGE);
        }
        for (int slot = 0; slot < 3; slot++) {
            c.due("take(" + slot + ") of what was not kept", x.take(slot), WhoseDay.STATE);
        }
    }

    private static void keepState(Check c) {
        c.says("37: STATE: no RUN");
        WhoseDay x = new WhoseDay();
        for (int slot = 0; slot < 3; slot++) {
            c.due("keep(" + slot + ")", x.keep(slot), WhoseDay.STATE);
            c.due("take(" + slot + ")", x.take(slot), WhoseDay.STATE);
        }
        x.begin(0);
        x.town();
        c.due("keep(0) behind town()", x.keep(0), WhoseDay.STATE);
    }

    private static void takeDays(Check c) {
        c.says("38: The RUN becomes as a SLOT keeps it: how many DAYS passed");
        WhoseDay x = running(7);
        x.keep(2);
        x.go(33);
        String due = whole(x);
        x.begin(5);
        for (int i = 0; i < 3; i++) {
            c.due("take(2)", x.take(2), 7);
            c.dueRow("as it was kept", whole(x), whole(running(7)));
            // its seed, turning and days, too: it goes on as it did
            x.go(33);
            c.dueRow("gone on", whole(x), due);
        }
        x.turn(3);
        c.due("take(2)", x.take(2), 7);
        c.due("THE TURNING stays", x.dreams(0), Integer.parseInt(Check.row(turned(3)).substring(0, 1)));
        c.dueRow("THE TURNING has no part in it", whole(x), whole(running(7)));
    }

    private static WhoseDay turned(int number) {
        WhoseDay x = Check.in(Check.people(5));
        x.turn(number);
        return x;
    }

    private static void takeRange(Check c) {
        c.says("38: RANGE");
        WhoseDay x = running(3);
        x.keep(0);
        x.keep(1);
        x.keep(2);
        x.go(2);
        c.due("take(-1)", x.take(-1), WhoseDay.RANGE);
        c.due("take(3)", x.take(3), WhoseDay.RANGE);
        for (int far : Check.FAR) {
            c.due("take(" + far + ")", x.take(far), WhoseDay.RANGE);
        }
        c.due("the RUN is as it was", x.count(3), 5);
    }

    private static void takeState(Check c) {
        c.says("38: STATE: it is empty");
        WhoseDay x = running(3);
        x.keep(1);
        x.go(1);
        c.due("take(0)", x.take(0), WhoseDay.STATE);
        c.due("take(2)", x.take(2), WhoseDay.STATE);
        c.due("the RUN is as it was", x.count(3), 4);
        c.due("take(1)", x.take(1), 3);
        x.begin(0);
        c.due("take(1) behind begin", x.take(1), 3);
    }

    // ---- 39

    private static void counts(Check c) {
        c.says("39: What 0: clauses of the TOWN, 1: ACTS, 2: puttings RIGHT, 3: DAYS that passed in the RUN "
            + "(0 without), 4: bytes of THE TAPE");
        WhoseDay x = Check.in(Check.people(2) + "fact a 0;fact b 0;year 3;");
        int[] none = {5, 0, 0, 0, 0};
        for (int what = 0; what < none.length; what++) {
            c.due("count(" + what + ")", x.count(what), none[what]);
        }
        for (int i = 0; i < 16; i++) {
            x.act(0, 0, 0, 0, 1);
        }
        for (int i = 0; i < 20; i++) {
            x.right(0, i % 16, 1);
        }
        x.begin(0);
        x.go(200);
        x.go(200);
        Check.tape(x, "x".repeat(900));
        int[] full = {5, 16, 20, 400, 900};
        for (int what = 0; what < full.length; what++) {
            c.due("count(" + what + ") full", x.count(what), full[what]);
        }
        x.begin(0);
        c.due("count(3) of a new RUN", x.count(3), 0);
        c.due("count(0) of the longest", Check.in("person a;person b;" + "nap a 0;".repeat(8)).count(0), 10);
    }

    private static void countOthers(Check c) {
        c.says("39: NONE for others");
        WhoseDay x = Check.in(Check.people(2));
        for (int what : new int[] {-1, -2, 5, 6, 10}) {
            c.due("count(" + what + ")", x.count(what), WhoseDay.NONE);
        }
        for (int far : Check.FAR) {
            c.due("count(" + far + ")", x.count(far), WhoseDay.NONE);
        }
    }
}
