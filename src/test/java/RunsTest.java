/** Promises 34 to 39: begin, go, now, keep, take, count. */
public final class RunsTest {
    public static void main(String[] args) {
        Check c = new Check();
        days(c);
        years(c);
        slots(c);
        counting(c);
        c.end("RunsTest");
    }

    private static void days(Check c) {
        WhoseDay x = Check.in("person a;person b;person c;fact a 1;fact c 2;");
        c.due("go without", x.go(1), WhoseDay.STATE);
        c.due("go without, of too many", x.go(201), WhoseDay.RANGE);
        c.due("now without", x.now(0, 0), WhoseDay.NONE);
        c.due("keep without", x.keep(0), WhoseDay.STATE);
        c.due("take without", x.take(0), WhoseDay.STATE);
        c.due("begin(-1)", x.begin(-1), WhoseDay.RANGE);
        c.due("begin(MIN)", x.begin(Integer.MIN_VALUE), WhoseDay.RANGE);
        c.due("go still without", x.go(1), WhoseDay.STATE);
        c.due("begin(MAX)", x.begin(Integer.MAX_VALUE), 1);
        c.due("begin(5)", x.begin(5), 1);
        c.due("now(0, 0)", x.now(0, 0), 0);
        c.due("now(0, 1)", x.now(0, 1), 1);
        c.due("go(0)", x.go(0), 0);
        c.due("go(1)", x.go(1), 1);
        c.due("now(0, 0) on day 1", x.now(0, 0), 0);
        c.due("go(1)", x.go(1), 2);
        // c dreams a, b dreams c
        c.due("now(0, 0) on day 2", x.now(0, 0), 1);
        c.due("now(2, 0) on day 2", x.now(2, 0), 1);
        c.due("now(1, 0) on day 2", x.now(1, 0), 0);
        c.due("go(1)", x.go(1), 3);
        c.due("now(1, 0) on day 3", x.now(1, 0), 3);
        c.due("now(2, 0) on day 3", x.now(2, 0), 3);
        c.due("now(0, 0) on day 3", x.now(0, 0), 1);
        // a run has the turning with which it began
        x.turn(1);
        c.due("now(0, 1) behind turn", x.now(0, 1), 1);
        c.due("go(-1)", x.go(-1), WhoseDay.RANGE);
        c.due("go(201)", x.go(201), WhoseDay.RANGE);
        c.due("go(200)", x.go(200), 203);
        c.due("count(3)", x.count(3), 203);
        c.due("begin again", x.begin(6), 1);
        c.due("count(3) again", x.count(3), 0);
        c.due("now(0, 0) again", x.now(0, 0), 0);
        c.due("now(0, 1) again", x.now(0, 1), 2);
        int[][] wrong = {{-1, 0}, {3, 0}, {0, -1}, {0, 2}};
        for (int[] w : wrong) {
            c.due("now of wrong numbers", x.now(w[0], w[1]), WhoseDay.RANGE);
        }
        WhoseDay alone = Check.in("person a;person b;person c alone;fact c 0;");
        alone.begin(0);
        alone.go(1);
        c.due("now(2, 0) of one alone", alone.now(2, 0), 1);
        c.due("now(2, 1) of one alone", alone.now(2, 1), WhoseDay.NONE);
    }

    /** A year of two days: behind each the turning is drawn of nine. */
    private static void years(Check c) {
        WhoseDay x = Check.in("person a;person b;person c;person d;fact a 1;fact b 2;year 2;");
        x.turn(8);
        x.begin(1);
        long s = 1;
        int[] firsts = {1, 1, 1, 2, 2, 2, 3, 3, 3};
        c.due("now(0, 1)", x.now(0, 1), 3);
        for (int year = 1; year <= 20; year++) {
            int ahead = x.now(0, 1);
            x.go(1);
            c.due("within year " + year, x.now(0, 1), ahead);
            c.due("days", x.go(1), 2 * year);
            s = (1103515245L * s + 12345) % 2147483648L;
            c.due("behind year " + year, x.now(0, 1), firsts[(int) (s / 65536 % 9)]);
        }
        c.due("what is known stays", x.now(0, 0), 1);
        c.due("a fact of no day in the year", x.now(1, 0) & 2, 0);
        c.due("the turning stays", x.dreams(0), 3);
        // one turning alone: it is drawn all the same, and all days are of one year's kind
        WhoseDay y = Check.in("person a;person b;fact a 0;dull a 0 0;year 1;");
        y.begin(7);
        c.due("go(200)", y.go(200), 200);
        c.due("dull on every day", y.now(1, 0), 0);
        c.due("now(1, 1)", y.now(1, 1), 0);
        // talks on multiples of their number within a year, not of all days
        WhoseDay z = Check.in("person a;person b;person c alone;fact a 1;talk a c 4;year 4;");
        z.begin(0);
        z.go(4);
        c.due("no talk in the first year", z.now(2, 0), 0);
        z.go(1);
        c.due("the talk of the next day 0", z.now(2, 0), 1);
    }

    private static void slots(Check c) {
        WhoseDay x = Check.in("person a;person b;person c;person d;person e;fact a 1;fact b 3;year 5;");
        x.begin(99);
        x.go(12);
        c.due("keep(0)", x.keep(0), 12);
        c.due("keep(3)", x.keep(3), WhoseDay.RANGE);
        c.due("keep(-1)", x.keep(-1), WhoseDay.RANGE);
        c.due("take(1)", x.take(1), WhoseDay.STATE);
        c.due("take(3)", x.take(3), WhoseDay.RANGE);
        c.due("take(-1)", x.take(-1), WhoseDay.RANGE);
        x.go(31);
        int[] then = new int[10];
        for (int p = 0; p < 5; p++) {
            then[p] = x.now(p, 0);
            then[5 + p] = x.now(p, 1);
        }
        c.due("keep(2)", x.keep(2), 43);
        x.begin(3);
        x.go(1);
        c.due("take(0)", x.take(0), 12);
        c.due("count(3)", x.count(3), 12);
        c.due("go(31)", x.go(31), 43);
        for (int p = 0; p < 5; p++) {
            c.due("now(p, 0) gone on", x.now(p, 0), then[p]);
            c.due("now(p, 1) gone on", x.now(p, 1), then[5 + p]);
        }
        // and both go on alike
        x.go(50);
        int[] later = new int[5];
        for (int p = 0; p < 5; p++) {
            later[p] = x.now(p, 1);
        }
        c.due("take(2)", x.take(2), 43);
        x.go(50);
        for (int p = 0; p < 5; p++) {
            c.due("now(p, 1) later", x.now(p, 1), later[p]);
        }
        c.due("take(0) once more", x.take(0), 12);
        c.due("keep(2) over", x.keep(2), 12);
        c.due("take(2) over", x.take(2), 12);
    }

    private static void counting(Check c) {
        WhoseDay x = Check.in("person a;person b;fact a 1;");
        x.act(0, 1, 0, 0, 1);
        x.act(0, 1, 0, 0, 1);
        x.right(0, 1, 1);
        x.begin(0);
        x.go(7);
        Check.tape(x, "abc");
        int[][] due = {{0, 3}, {1, 2}, {2, 1}, {3, 7}, {4, 3}, {5, -1}, {-1, -1}, {Integer.MIN_VALUE, -1}};
        for (int[] d : due) {
            c.due("count(" + d[0] + ")", x.count(d[0]), d[1]);
        }
    }
}
