/** Edges of days (term II) and of promises 11 to 14, sentence by sentence. */
public final class EdgesDayTest {
    private static final String TWO = Check.people(2);
    /** a dreams b, b dreams c, c dreams a: what a knows comes to c, then to b. */
    private static final String THREE = Check.people(3);
    private static final int NAPS = 4;
    private static final int TALKS = 2;
    private static final int NIGHTS = 1;
    private static final int[] NEVER = {-1, -1, -1};

    public static void main(String[] args) {
        Check c = new Check();
        byItself(c);
        napsOfTheDay(c);
        napsByNumbers(c);
        napsDeepAndDull(c);
        talksOfTheDay(c);
        talksByNumbers(c);
        talksAgainstTheLaw(c);
        theNight(c);
        nightDeepAndDull(c);
        theOrderOfADay(c);
        ways(c);
        knowsRange(c);
        comesFirst(c);
        comesNone(c);
        comesRange(c);
        allAlsoThoseAlone(c);
        allNone(c);
        allRange(c);
        judgedAheadOfTheNight(c);
        judgedRows(c);
        judgedFirstWrong(c);
        judgedOneThatThereIsnt(c);
        judgedNoSuchText(c);
        c.end("EdgesDayTest");
    }

    private static void coming(Check c, String town, int person, int ways, int... due) {
        coming(c, Check.in(town), town, person, ways, due);
    }

    /** How fact 0 comes to a person: the day, the way, from whom. */
    private static void coming(Check c, WhoseDay x, String town, int person, int ways, int... due) {
        for (int what = 0; what < 3; what++) {
            c.due("comes(" + person + ", 0, " + ways + ", " + what + ") in " + town, x.comes(person, 0, ways, what),
                due[what]);
        }
    }

    // ---- a day

    private static void byItself(Check c) {
        c.says("II: DAYS 0 .. 27; (1) who comes to know a FACT on it by itself, knows it");
        for (int day : new int[] {0, 1, 13, 26, 27}) {
            WhoseDay x = Check.in(TWO + "fact b " + day + ";");
            for (int behind = 0; behind < 28; behind++) {
                c.due("knows(1, " + behind + ", 0)", x.knows(1, behind, 0), behind < day ? 0 : 1);
                c.due("knows(0, " + behind + ", 0)", x.knows(0, behind, 0), 0);
            }
            coming(c, x, "fact b " + day, 1, 0, day, 0, -1);
        }
    }

    private static void napsOfTheDay(Check c) {
        c.says("II: (2) NAPS of it ..: who naps dreams: knows what the one he dreams knows");
        coming(c, TWO + "fact a 3;nap b 2;", 1, NAPS, NEVER);
        coming(c, TWO + "fact a 3;nap b 3;", 1, NAPS, 3, 1, 0);
        coming(c, TWO + "fact a 3;nap b 4;", 1, NAPS, 4, 1, 0);
        coming(c, TWO + "fact a 0;nap b 0;", 1, NAPS, 0, 1, 0);
        coming(c, TWO + "fact a 27;nap b 27;", 1, NAPS, 27, 1, 0);
        coming(c, TWO + "fact a 3;nap a 4;", 1, NAPS, NEVER);
        coming(c, TWO + "fact a 3;nap b 9;nap b 5;nap b 7;", 1, NAPS, 5, 1, 0);
        coming(c, TWO + "fact b 3;nap a 5;", 0, NAPS, 5, 1, 1);
        coming(c, Check.people(8) + "fact g 3;nap h 5;", 7, NAPS, 5, 1, 6);
        // naps of other days are no naps of this one
        coming(c, TWO + "fact a 3;nap a 4;nap b 6;", 1, NAPS, 6, 1, 0);
        coming(c, TWO + "fact a 3;nap b 6;nap a 4;", 1, NAPS, 6, 1, 0);
        // who naps dreams one alone, not all
        coming(c, THREE + "fact a 3;nap b 4;", 1, NAPS, NEVER);
        coming(c, THREE + "fact a 3;nap c 4;", 2, NAPS, 4, 1, 0);
        // the eighth nap is one, too
        coming(c, TWO + "fact a 3;" + "nap b 0;".repeat(7) + "nap b 6;", 1, NAPS, 6, 1, 0);
        c.says("I: alone: dreams nobody (nor naps of anybody's day)");
        coming(c, TWO + "person c alone;fact a 3;nap c 4;", 2, 5, NEVER);
        coming(c, TWO + "person c alone;fact c 3;nap a 4;nap b 4;", 0, 5, NEVER);
    }

    private static void napsByNumbers(Check c) {
        c.says("II: (2) NAPS of it by their numbers");
        coming(c, THREE + "fact a 3;nap c 3;nap b 3;", 1, NAPS, 3, 1, 2);
        coming(c, THREE + "fact a 3;nap b 3;nap c 3;", 1, NAPS, NEVER);
        coming(c, THREE + "fact a 3;nap b 3;nap c 3;nap b 3;", 1, NAPS, 3, 1, 2);
        coming(c, THREE + "fact a 3;nap b 4;nap c 3;", 1, NAPS, 4, 1, 2);
    }

    private static void napsDeepAndDull(Check c) {
        c.says("II: (2) .. but for deep FACTS");
        coming(c, TWO + "fact a 3;nap b 4;deep 1;", 1, NAPS, NEVER);
        coming(c, TWO + "fact a 3;nap b 4;deep 4094;", 1, NAPS, 4, 1, 0);
        coming(c, TWO + "fact a 3;nap b 4;law 1;", 1, NAPS, 4, 1, 0);
        c.says("II: (2) .. unless that one is DULL on the DAY; I: dull: from a DAY to another one, that one, too");
        coming(c, TWO + "fact a 3;nap b 4;dull a 4 4;", 1, NAPS, NEVER);
        coming(c, TWO + "fact a 3;nap b 4;dull a 2 4;", 1, NAPS, NEVER);
        coming(c, TWO + "fact a 3;nap b 4;dull a 4 6;", 1, NAPS, NEVER);
        coming(c, TWO + "fact a 3;nap b 4;dull a 2 3;", 1, NAPS, 4, 1, 0);
        coming(c, TWO + "fact a 3;nap b 4;dull a 5 6;", 1, NAPS, 4, 1, 0);
        coming(c, TWO + "fact a 3;nap b 4;dull b 4 4;", 1, NAPS, 4, 1, 0);
        coming(c, TWO + "fact a 3;nap b 4;dull a 0 0;dull a 4 4;dull b 9 9;", 1, NAPS, NEVER);
        coming(c, TWO + "fact a 0;nap b 0;dull a 0 0;", 1, NAPS, NEVER);
        coming(c, TWO + "fact a 0;nap b 27;dull a 27 27;", 1, NAPS, NEVER);
        coming(c, TWO + "fact a 3;nap b 6;" + "dull b 0 0;".repeat(7) + "dull a 6 6;", 1, NAPS, NEVER);
    }

    private static void talksOfTheDay(Check c) {
        c.says("I: talk: two PEOPLE .., on each DAY that is a multiple of N, 1 .. 28");
        for (int n = 1; n <= 28; n++) {
            for (int day : new int[] {0, 1, 14, 27}) {
                int first = (day + n - 1) / n * n;
                int[] due = first > 27 ? NEVER : new int[] {first, 2, 0};
                coming(c, TWO + "fact a " + day + ";talk a b " + n + ";", 1, TALKS, due);
            }
        }
        // talks of other days are no talks of this one
        coming(c, THREE + "fact a 3;talk b c 1;talk a b 5;", 1, TALKS, 5, 2, 0);
        coming(c, THREE + "fact a 3;talk b c 1;talk a b 5;", 2, TALKS, 6, 2, 1);
        coming(c, THREE + "fact a 3;talk a b 5;talk b c 1;", 2, TALKS, 5, 2, 1);
        c.says("II: (3) TALKS ..: both then know what either knew");
        coming(c, TWO + "fact b 3;talk a b 5;", 0, TALKS, 5, 2, 1);
        coming(c, TWO + "fact b 3;talk b a 5;", 0, TALKS, 5, 2, 1);
        WhoseDay x = Check.in(TWO + "fact a 3;fact b 4;talk a b 5;");
        for (int p = 0; p < 2; p++) {
            c.due("knows(" + p + ", 4, 2)", x.knows(p, 4, TALKS), 1 << p);
            c.due("knows(" + p + ", 5, 2)", x.knows(p, 5, TALKS), 3);
        }
        c.says("II: (3) (those alone talk; DULL hinders no TALK)");
        coming(c, TWO + "person c alone;person d alone;fact c 3;talk c d 4;", 3, TALKS, 4, 2, 2);
        coming(c, TWO + "fact a 3;talk a b 5;dull a 0 27;dull b 0 27;", 1, TALKS, 5, 2, 0);
        coming(c, TWO + "fact a 3;" + "talk a b 28;".repeat(7) + "talk a b 6;", 1, TALKS, 6, 2, 0);
    }

    private static void talksByNumbers(Check c) {
        c.says("II: (3) TALKS of it by their numbers");
        coming(c, THREE + "fact a 3;talk a b 3;talk b c 3;", 2, TALKS, 3, 2, 1);
        coming(c, THREE + "fact a 3;talk b c 3;talk a b 3;", 2, TALKS, 6, 2, 1);
        coming(c, THREE + "fact a 3;talk b c 1;talk a b 3;", 2, TALKS, 4, 2, 1);
        coming(c, THREE + "fact a 3;talk b c 3;talk a b 3;talk c b 3;", 2, TALKS, 3, 2, 1);
    }

    private static void talksAgainstTheLaw(Check c) {
        c.says("II: (3) .. but for FACTS that are against the law");
        coming(c, TWO + "fact a 3;talk a b 3;law 1;", 1, TALKS, NEVER);
        coming(c, TWO + "fact a 3;talk a b 3;law 4094;", 1, TALKS, 3, 2, 0);
        coming(c, TWO + "fact a 3;talk a b 3;deep 1;", 1, TALKS, 3, 2, 0);
        WhoseDay x = Check.in(TWO + "fact a 3;".repeat(12) + "talk a b 3;law 2730;");
        c.due("knows(1, 3, 2)", x.knows(1, 3, TALKS), 1365);
    }

    private static void theNight(Check c) {
        c.says("II: (4) THE NIGHT: all at once: each knows what the one he dreams knew ahead of the NIGHT");
        coming(c, THREE + "fact a 3;", 2, NIGHTS, 3, 3, 0);
        coming(c, THREE + "fact a 3;", 1, NIGHTS, 4, 3, 2);
        coming(c, THREE + "fact c 3;", 1, NIGHTS, 3, 3, 2);
        coming(c, THREE + "fact c 3;", 0, NIGHTS, 4, 3, 1);
        WhoseDay ring = Check.in(Check.people(8) + "fact a 3;fact h 3;");
        // each dreams the next, and each dreams the one ahead: no night brings two steps in either row
        Check.turn(ring, "12345670");
        for (int p = 1; p < 8; p++) {
            c.due("comes(" + p + ") behind", ring.comes(p, 0, NIGHTS, 0), 3 + 7 - p);
        }
        Check.turn(ring, "70123456");
        for (int p = 1; p < 8; p++) {
            c.due("comes(" + p + ") ahead", ring.comes(p, 0, NIGHTS, 0), 3 + p - 1);
        }
        c.says("II: (4) THE NIGHT (of the first and of the last DAY)");
        coming(c, TWO + "fact a 0;", 1, NIGHTS, 0, 3, 0);
        coming(c, TWO + "fact a 27;", 1, NIGHTS, 27, 3, 0);
        coming(c, THREE + "fact a 27;", 1, NIGHTS, NEVER);
        coming(c, THREE + "fact a 26;", 1, NIGHTS, 27, 3, 2);
    }

    private static void nightDeepAndDull(Check c) {
        c.says("II: (4) .. but for deep FACTS");
        coming(c, TWO + "fact a 3;deep 1;", 1, 5, NEVER);
        coming(c, TWO + "fact a 3;deep 4094;", 1, NIGHTS, 3, 3, 0);
        coming(c, TWO + "fact a 3;law 4095;", 1, NIGHTS, 3, 3, 0);
        c.says("II: (4) .. unless that one is DULL on the DAY; I: dull: .. that one, too");
        coming(c, TWO + "fact a 3;dull a 3 3;", 1, NIGHTS, 4, 3, 0);
        coming(c, TWO + "fact a 3;dull a 0 5;", 1, NIGHTS, 6, 3, 0);
        coming(c, TWO + "fact a 3;dull a 4 27;", 1, NIGHTS, 3, 3, 0);
        coming(c, TWO + "fact a 3;dull a 3 27;", 1, NIGHTS, NEVER);
        coming(c, TWO + "fact a 3;dull a 3 26;", 1, NIGHTS, 27, 3, 0);
        coming(c, TWO + "fact a 3;dull a 0 2;dull b 0 27;", 1, NIGHTS, 3, 3, 0);
        coming(c, TWO + "fact a 3;dull a 3 4;dull a 6 7;dull a 5 5;", 1, NIGHTS, 8, 3, 0);
    }

    private static void theOrderOfADay(Check c) {
        c.says("II: A DAY: (1), (2), (3), (4)");
        // what comes by itself is dreamt in a nap of that day, told in a talk of it
        coming(c, TWO + "fact a 6;nap b 6;", 1, 7, 6, 1, 0);
        coming(c, TWO + "fact a 6;talk a b 6;", 1, 7, 6, 2, 0);
        // a nap goes ahead of a talk, a talk ahead of the night
        coming(c, TWO + "fact a 6;talk a b 6;nap b 6;", 1, 7, 6, 1, 0);
        coming(c, TWO + "fact a 6;talk a b 6;", 1, 3, 6, 2, 0);
        // what a talk brings is not in a nap of that day
        coming(c, THREE + "fact b 6;talk a b 6;nap c 6;", 2, 6, NEVER);
        coming(c, THREE + "fact b 6;talk a b 6;nap c 7;", 2, 6, 7, 1, 0);
        // what a nap brings is told in a talk of that day, and both come on in its night
        coming(c, Check.people(3) + "person d alone;fact a 6;nap c 6;talk c d 6;", 3, 7, 6, 2, 2);
        coming(c, THREE + "fact a 6;nap c 6;", 1, 7, 6, 3, 2);
        coming(c, THREE + "fact b 6;talk a b 6;", 2, 7, 6, 3, 0);
        // a talk of that day is over when the night comes
        coming(c, THREE + "person d alone;fact a 6;talk c d 6;", 3, 7, 12, 2, 2);
    }

    private static void ways(Check c) {
        c.says("II: WAYS as bits: 1 dreams by NIGHT, 2 TALKS, 4 NAPS: only what is among told WAYS happens");
        WhoseDay x = Check.in(TWO + "fact a 3;nap b 9;talk a b 6;");
        int[][] due = {NEVER, {3, 3, 0}, {6, 2, 0}, {3, 3, 0}, {9, 1, 0}, {3, 3, 0}, {6, 2, 0}, {3, 3, 0}};
        for (int ways = 0; ways < 8; ways++) {
            coming(c, x, "three ways", 1, ways, due[ways]);
            for (int day = 0; day < 28; day++) {
                boolean isKnown = due[ways][0] >= 0 && day >= due[ways][0];
                c.due("knows(1, " + day + ", " + ways + ")", x.knows(1, day, ways), isKnown ? 1 : 0);
            }
            c.due("all(0, " + ways + ")", x.all(0, ways), due[ways][0]);
        }
        // all three on one day: a nap goes ahead of a talk, a talk ahead of the night
        WhoseDay y = Check.in(TWO + "fact a 3;nap b 3;talk a b 3;");
        int[] way = {-1, 3, 2, 2, 1, 1, 1, 1};
        for (int ways = 0; ways < 8; ways++) {
            c.due("comes(1, 0, " + ways + ", 1) on one day", y.comes(1, 0, ways, 1), way[ways]);
        }
    }

    // ---- 11 to 13

    private static void knowsRange(Check c) {
        c.says("11: FACTS that a PERSON knows, as bits, by WAYS (0 .. 7), behind a DAY; RANGE");
        WhoseDay x = Check.in(TWO + "person c alone;" + "fact a 0;".repeat(12));
        c.due("knows(0, 0, 0)", x.knows(0, 0, 0), 4095);
        c.due("knows(1, 27, 7)", x.knows(1, 27, 7), 4095);
        c.due("knows(2, 27, 7)", x.knows(2, 27, 7), 0);
        int[][] wrong = {{-1, 0, 0}, {3, 0, 0}, {8, 0, 0}, {0, -1, 0}, {0, 28, 0}, {0, 0, -1}, {0, 0, 8}};
        for (int[] w : wrong) {
            c.due("knows(" + w[0] + ", " + w[1] + ", " + w[2] + ")", x.knows(w[0], w[1], w[2]), WhoseDay.RANGE);
        }
        for (int far : Check.FAR) {
            c.due("knows(far, 0, 0)", x.knows(far, 0, 0), WhoseDay.RANGE);
            c.due("knows(0, far, 0)", x.knows(0, far, 0), WhoseDay.RANGE);
            c.due("knows(0, 0, far)", x.knows(0, 0, far), WhoseDay.RANGE);
        }
        c.due("knows(0, 0, 0) of nothing", new WhoseDay().knows(0, 0, 0), WhoseDay.RANGE);
        c.due("knows of no facts", Check.in(TWO).knows(0, 27, 7), 0);
    }

    private static void comesFirst(Check c) {
        c.says("II: COMES: the DAY on which a PERSON first knows a FACT, the way (..), and from whom");
        // of two talks of a day the first one that brings it
        coming(c, THREE + "fact a 2;talk a b 2;talk a c 2;talk b c 2;", 2, TALKS, 2, 2, 0);
        coming(c, THREE + "fact a 2;talk a b 2;talk b c 2;talk a c 2;", 2, TALKS, 2, 2, 1);
        coming(c, THREE + "fact a 2;talk a b 2;talk c b 2;", 2, TALKS, 2, 2, 1);
        // the first of days, whatever the way
        coming(c, TWO + "fact a 2;dull a 2 4;nap b 6;talk a b 7;", 1, 7, 5, 3, 0);
        coming(c, TWO + "fact a 2;dull a 2 5;nap b 6;talk a b 7;", 1, 7, 6, 1, 0);
        coming(c, TWO + "fact a 2;dull a 2 27;nap b 6;talk a b 7;", 1, 7, 7, 2, 0);
        c.says("12: what 0: the DAY, 1: the way, 2: from whom (NONE by itself)");
        coming(c, TWO + "fact a 0;talk a b 1;nap a 0;", 0, 7, 0, 0, -1);
        coming(c, TWO + "fact b 27;talk a b 27;", 1, 7, 27, 0, -1);
    }

    private static void comesNone(Check c) {
        c.says("12: NONE: not in these DAYS");
        coming(c, TWO + "fact a 3;", 1, 0, NEVER);
        coming(c, TWO + "person c alone;fact a 3;", 2, 7, NEVER);
        coming(c, TWO + "fact a 1;talk a b 28;", 1, TALKS, NEVER);
        coming(c, Check.people(4) + "fact a 0;", 2, 7, NEVER);
    }

    private static void comesRange(Check c) {
        c.says("12: RANGE (-2)");
        WhoseDay x = Check.in(TWO + "fact a 0;fact b 1;");
        int[][] wrong = {{-1, 0, 0, 0}, {2, 0, 0, 0}, {0, -1, 0, 0}, {0, 2, 0, 0}, {0, 0, -1, 0}, {0, 0, 8, 0},
            {0, 0, 0, -1}, {0, 0, 0, 3}};
        for (int[] w : wrong) {
            c.due("comes of wrong numbers", x.comes(w[0], w[1], w[2], w[3]), WhoseDay.RANGE);
        }
        for (int far : Check.FAR) {
            c.due("comes(far, ..)", x.comes(far, 0, 0, 0), WhoseDay.RANGE);
            c.due("comes(0, far, ..)", x.comes(0, far, 0, 0), WhoseDay.RANGE);
            c.due("comes(0, 0, far, 0)", x.comes(0, 0, far, 0), WhoseDay.RANGE);
            c.due("comes(0, 0, 0, far)", x.comes(0, 0, 0, far), WhoseDay.RANGE);
        }
        // numbers that can't be, of a fact that never comes
        c.due("comes(1, 0, 0, 3)", x.comes(1, 0, 0, 3), WhoseDay.RANGE);
        c.due("comes(1, 1, 7, 2)", x.comes(1, 1, 7, 2), WhoseDay.NONE);
        c.due("the twelfth fact", Check.in(TWO + "fact a 5;".repeat(12)).comes(0, 11, 0, 0), 5);
        c.due("comes of a town without facts", Check.in(TWO).comes(0, 0, 7, 0), WhoseDay.RANGE);
    }

    private static void allAlsoThoseAlone(Check c) {
        c.says("13: The first DAY behind which all know a FACT (those alone, too) by WAYS");
        c.due("all(0, 7)", Check.in(TWO + "fact a 3;").all(0, 7), 3);
        c.due("all(0, 7) of three", Check.in(THREE + "fact a 3;").all(0, 7), 4);
        c.due("all(0, 7) of three, a the last", Check.in(THREE + "fact c 3;").all(0, 7), 4);
        c.due("all(0, 7) of three, c the last", Check.in(THREE + "fact b 3;").all(0, 7), 4);
        c.due("all(0, 7) with one alone", Check.in(TWO + "person c alone;fact a 3;").all(0, 7), WhoseDay.NONE);
        c.due("all(0, 7) with one alone who talks",
            Check.in(TWO + "person c alone;fact a 3;talk a c 5;").all(0, 7), 5);
        c.due("all(0, 0) of one alone", Check.in("person a alone;fact a 3;").all(0, 0), 3);
        c.due("all(0, 7) on day 0", Check.in(TWO + "fact a 0;").all(0, 7), 0);
        c.due("all(0, 7) on day 27", Check.in(TWO + "fact a 27;").all(0, 7), 27);
    }

    private static void allNone(Check c) {
        c.says("13: NONE: none of these");
        c.due("all(0, 7) on day 28", Check.in(THREE + "fact a 27;").all(0, 7), WhoseDay.NONE);
        c.due("all(0, 0)", Check.in(TWO + "fact a 3;").all(0, 0), WhoseDay.NONE);
        c.due("all(0, 7) of two rings", Check.in(Check.people(4) + "fact a 3;").all(0, 7), WhoseDay.NONE);
    }

    private static void allRange(Check c) {
        c.says("13: RANGE");
        WhoseDay x = Check.in(TWO + "fact a 3;");
        int[][] wrong = {{-1, 0}, {1, 0}, {12, 0}, {0, -1}, {0, 8}};
        for (int[] w : wrong) {
            c.due("all(" + w[0] + ", " + w[1] + ")", x.all(w[0], w[1]), WhoseDay.RANGE);
        }
        for (int far : Check.FAR) {
            c.due("all(far, 0)", x.all(far, 0), WhoseDay.RANGE);
            c.due("all(0, far)", x.all(0, far), WhoseDay.RANGE);
        }
        c.due("all(0, 0) of nothing", new WhoseDay().all(0, 0), WhoseDay.RANGE);
    }

    // ---- 14

    private static void judgedAheadOfTheNight(Check c) {
        c.says("II: JUDGED: .. on which he acts at that DAY's end, ahead of THE NIGHT: RIGHT, if he knows it "
            + "then (by all WAYS)");
        WhoseDay x = Check.in(TWO + "person c alone;person d;fact a 4;fact a 4;nap b 5;talk a c 6;dreams b a;law 2;deep 2;");
        c.due("by itself", Check.judge(x, "4 0 0;"), 1);
        c.due("the day ahead", Check.judge(x, "3 0 0;"), -1);
        c.due("in that night", Check.judge(x, "4 1 0;"), -1);
        c.due("the day behind that night", Check.judge(x, "5 1 0;"), 1);
        c.due("by a talk of the day", Check.judge(x, "6 2 0;"), 1);
        c.due("ahead of the talk", Check.judge(x, "5 2 0;"), -1);
        c.due("deep", Check.judge(x, "27 1 1;"), -1);
        c.due("against the law", Check.judge(x, "27 2 1;"), -1);
        WhoseDay nap = Check.in(TWO + "fact a 4;dull a 4 4;nap b 5;");
        c.due("by a nap of the day", Check.judge(nap, "5 1 0;"), 1);
        c.due("ahead of the nap", Check.judge(nap, "4 1 0;"), -1);
        WhoseDay last = Check.in(TWO + "fact a 27;");
        c.due("the last day", Check.judge(last, "27 0 0;"), 1);
        c.due("the last night", Check.judge(last, "27 1 0;"), -1);
        c.due("the first day", Check.judge(Check.in(TWO + "fact a 0;"), "0 0 0;"), 1);
        WhoseDay turned = Check.in(THREE + "fact a 4;");
        c.due("by THE TURNING", Check.judge(turned, "5 2 0;5 1 0;"), -2);
        turned.turn(1);
        c.due("by another TURNING", Check.judge(turned, "5 1 0;5 2 0;"), -2);
    }

    private static void judgedRows(Check c) {
        c.says("14: how many rows, if all are RIGHT; II: DAYS in any row");
        WhoseDay x = Check.in(TWO + "fact a 0;");
        c.due("none", Check.judge(x, ""), 0);
        c.due("blanks", Check.judge(x, "\n \n"), 0);
        c.due("one", Check.judge(x, "0 0 0;"), 1);
        c.due("falling days", Check.judge(x, "27 0 0;13 1 0;1 1 0;0 0 0;27 1 0;"), 5);
        c.due("no blanks but between", Check.judge(x, "0 0 0;1 1 0;"), 2);
        c.due("any blanks", Check.judge(x, " \n1\n\n1\n0 \n ;\n"), 1);
        c.due("as many as there is room for", Check.judge(x, "0 0 0;".repeat(150)), 150);
        c.due("zeros ahead", Check.judge(x, "0027 0001 0000;"), 1);
    }

    private static void judgedFirstWrong(Check c) {
        c.says("14: else NONE less the number of the first that isn't");
        WhoseDay x = Check.in(TWO + "fact a 5;");
        for (int ahead = 0; ahead < 5; ahead++) {
            String book = "5 0 0;".repeat(ahead) + "4 0 0;";
            c.due("the first wrong is " + ahead, Check.judge(x, book), -1 - ahead);
            c.due("right ones behind", Check.judge(x, book + "5 0 0;"), -1 - ahead);
            c.due("wrong ones behind", Check.judge(x, book + "3 0 0;0 7 11;"), -1 - ahead);
        }
        c.due("the last of 150", Check.judge(x, "5 0 0;".repeat(149) + "4 0 0;"), -150);
    }

    private static void judgedOneThatThereIsnt(Check c) {
        c.says("II: JUDGED: .. the first that isn't (or names one that there isn't)");
        WhoseDay x = Check.in(TWO + "fact a 0;");
        c.due("person 2 of two", Check.judge(x, "9 1 0;9 2 0;"), -2);
        c.due("person 7", Check.judge(x, "9 7 0;"), -1);
        c.due("fact 1 of one", Check.judge(x, "9 1 0;9 1 0;9 0 1;"), -3);
        c.due("fact 11", Check.judge(x, "9 0 11;"), -1);
        c.due("both", Check.judge(x, "27 7 11;"), -1);
        c.due("in a town of nothing", Check.judge(new WhoseDay(), "0 0 0;"), -1);
    }

    private static void judgedNoSuchText(Check c) {
        c.says("14: FULL (-1000): it is no such text; II: a DAY 0 .. 27, a PERSON 0 .. 7, a FACT 0 .. 11");
        WhoseDay x = Check.in(TWO + "fact a 0;");
        String[] wrong = {"28 0 0;", "0 8 0;", "0 0 12;", "9999 0 0;", "0 9999 0;", "0 0 9999;", "00000 0 0;",
            "0 00000 0;", "0 0 00000;", ";", "0;", "0 0;", "0 0 0", "0 0 0 0;", "0", "0 0", "a 0 0;", "0 a 0;",
            "0 0 a;", "0 0 0a", "0 0 0;;", "0 0 0;0", "0 0 0;a", "-1 0 0;", "0,0,0;", "0 0 0.", "0\t0 0;",
            "0 0 0;\u0000", "000;"};
        for (String book : wrong) {
            c.due("judge() of " + book, Check.judge(x, book), -1000);
            // also behind rows that are right, and behind one that isn't
            c.due("behind a right one " + book, Check.judge(x, "1 1 0;" + book), -1000);
            c.due("behind a wrong one " + book, Check.judge(x, "0 1 0;" + book), -1000);
        }
        c.due("cut at 900 bytes", Check.judge(x, "0 0 0;".repeat(149) + "0 0 0 "), -1000);
    }
}
