/** Edges of lots and rings (term III) and of promises 30 to 33, sentence by sentence. */
public final class EdgesLotTest {
    private static final long FACTORIAL_20 = 2432902008176640000L;

    public static void main(String[] args) {
        Check c = new Check();
        theMean(c);
        theChance(c);
        leastNumbers(c);
        alikeLikely(c);
        lotRange(c);
        theMeanDay(c);
        noDayIs28(c);
        lotDayRange(c);
        ringsInHowManyWays(c);
        ringsOfNone(c);
        ringsBounds(c);
        ringsNoSuchRow(c);
        partsInHowManyWays(c);
        partsEdges(c);
        partsAndRings(c);
        partsRange(c);
        c.end("EdgesLotTest");
    }

    /** what 0: the mean, 1: the chance, 2: the mean day. */
    private static void share(Check c, WhoseDay x, int day, int what, int upper, int lower) {
        String call = what == 2 ? "lotDay(0" : "lot(0, " + day + ", " + what;
        c.due(call + ", false)", what == 2 ? x.lotDay(0, false) : x.lot(0, day, what, false), upper);
        c.due(call + ", true)", what == 2 ? x.lotDay(0, true) : x.lot(0, day, what, true), lower);
    }

    // ---- 30

    private static void theMean(Check c) {
        c.says("III: BY LOT: .. the mean of how many know a FACT behind a DAY; 30: what 0");
        WhoseDay four = Check.in(Check.people(4) + "fact a 3;");
        // six turnings of one ring, three of two
        int[][] due = {{0, 0, 1}, {2, 0, 1}, {3, 2, 1}, {4, 8, 3}, {5, 10, 3}, {27, 10, 3}};
        for (int[] d : due) {
            share(c, four, d[0], 0, d[1], d[2]);
        }
        WhoseDay first = Check.in(Check.people(2) + "fact a 0;");
        share(c, first, 0, 0, 2, 1);
        WhoseDay last = Check.in(Check.people(2) + "fact a 27;");
        share(c, last, 26, 0, 0, 1);
        share(c, last, 27, 0, 2, 1);
        // the ring of a has 2, 3, 4, 5, 6 or 8 people by 1855, 1848, 1890, 1680, 2520, 5040 turnings
        share(c, Check.in(Check.people(8) + "fact a 0;"), 27, 0, 80654 / 7, 14833 / 7);
        share(c, Check.in("person a alone;person b alone;fact b 4;"), 4, 0, 1, 1);
    }

    private static void theChance(Check c) {
        c.says("III: BY LOT: .. the chance that all know it; 30: what 1");
        WhoseDay four = Check.in(Check.people(4) + "fact a 3;");
        int[][] due = {{0, 0, 1}, {4, 0, 1}, {5, 2, 3}, {27, 2, 3}};
        for (int[] d : due) {
            share(c, four, d[0], 1, d[1], d[2]);
        }
        WhoseDay two = Check.in(Check.people(2) + "fact a 27;");
        share(c, two, 26, 1, 0, 1);
        share(c, two, 27, 1, 1, 1);
        share(c, Check.in(Check.people(8) + "fact a 0;"), 6, 1, 5040 / 7, 14833 / 7);
        share(c, Check.in(Check.people(8) + "fact a 0;"), 5, 1, 0, 1);
        // those alone are of all, too
        share(c, Check.in(Check.people(2) + "person c alone;fact a 0;"), 27, 1, 0, 1);
        share(c, Check.in(Check.people(2) + "person c alone;fact a 0;talk b c 1;"), 1, 1, 1, 1);
    }

    private static void leastNumbers(Check c) {
        c.says("30: the upper number by least numbers (or the lower one)");
        // of nine turnings none, six; of two both
        WhoseDay x = Check.in(Check.people(4) + "fact a 3;");
        share(c, x, 2, 1, 0, 1);
        share(c, x, 27, 1, 2, 3);
        share(c, Check.in(Check.people(3) + "fact a 3;"), 4, 1, 1, 1);
        // by turning 0 c dreams a, in the nap, and b dreams c; by turning 1 b alone has it in the night
        share(c, Check.in(Check.people(3) + "fact a 3;nap c 3;"), 3, 0, 5, 2);
        share(c, Check.in(Check.people(3) + "fact a 3;nap c 3;"), 3, 1, 1, 2);
    }

    private static void alikeLikely(Check c) {
        c.says("III: BY LOT: all TURNINGS alike likely (those that are told, THE TURNING and ACTS apart)");
        WhoseDay x = Check.in(Check.people(4) + "fact a 3;");
        x.turn(7);
        x.act(0, 4, 1, 0, 1);
        share(c, x, 4, 0, 8, 3);
        share(c, x, 0, 2, 38, 3);
        c.due("THE TURNING stays", x.dreams(0), 3);
        // of three turnings by which a dreams b two are of one ring
        WhoseDay told = Check.in(Check.people(4) + "fact a 3;dreams a b;");
        share(c, told, 27, 1, 2, 3);
        share(c, Check.in(Check.people(4) + "fact a 3;dreams a b;dreams b a;"), 27, 0, 2, 1);
        c.says("30: .. of a FACT behind a DAY, by all WAYS");
        share(c, Check.in(Check.people(2) + "fact a 3;deep 1;talk a b 5;"), 4, 0, 1, 1);
        share(c, Check.in(Check.people(2) + "fact a 3;deep 1;talk a b 5;"), 5, 0, 2, 1);
        share(c, Check.in(Check.people(2) + "fact a 3;deep 1;talk a b 25;"), 24, 0, 1, 1);
        share(c, Check.in(Check.people(2) + "fact a 3;deep 1;talk a b 25;"), 25, 0, 2, 1);
        share(c, Check.in(Check.people(2) + "fact a 3;dull a 3 19;"), 19, 0, 1, 1);
        share(c, Check.in(Check.people(2) + "fact a 3;dull a 3 19;"), 20, 0, 2, 1);
        share(c, Check.in(Check.people(3) + "fact c 3;dull c 3 19;"), 21, 1, 1, 1);
        share(c, Check.in(Check.people(2) + "fact a 3;dull a 3 27;nap b 4;"), 27, 0, 1, 1);
        share(c, Check.in(Check.people(2) + "fact a 3;dull a 3 3;nap b 4;"), 4, 0, 2, 1);
    }

    private static void lotRange(Check c) {
        c.says("30: RANGE");
        WhoseDay x = Check.in(Check.people(2) + "fact a 3;");
        int[][] wrong = {{-1, 0, 0}, {1, 0, 0}, {12, 0, 0}, {0, -1, 0}, {0, 28, 0}, {0, 0, -1}, {0, 0, 2}};
        for (int[] w : wrong) {
            c.due("lot of wrong numbers", x.lot(w[0], w[1], w[2], false), WhoseDay.RANGE);
            c.due("lot of wrong numbers, lower", x.lot(w[0], w[1], w[2], true), WhoseDay.RANGE);
        }
        for (int far : Check.FAR) {
            c.due("lot(far, 0, 0)", x.lot(far, 0, 0, false), WhoseDay.RANGE);
            c.due("lot(0, far, 0)", x.lot(0, far, 0, false), WhoseDay.RANGE);
            c.due("lot(0, 0, far)", x.lot(0, 0, far, true), WhoseDay.RANGE);
        }
        c.due("lot of nothing", new WhoseDay().lot(0, 0, 0, false), WhoseDay.RANGE);
        c.due("lot of a town without facts", Check.in(Check.people(2)).lot(0, 0, 1, true), WhoseDay.RANGE);
        c.due("the twelfth fact", Check.in(Check.people(2) + "fact a 3;".repeat(12)).lot(11, 3, 0, false), 2);
    }

    // ---- 31

    private static void theMeanDay(Check c) {
        c.says("III: the mean of the first DAY behind which all know it; 31: the upper number by least "
            + "numbers (or the lower one)");
        share(c, Check.in(Check.people(2) + "fact a 0;"), 0, 2, 0, 1);
        share(c, Check.in(Check.people(2) + "fact a 27;"), 0, 2, 27, 1);
        share(c, Check.in(Check.people(3) + "fact a 3;"), 0, 2, 4, 1);
        // by turning 0 on day 3, by turning 1 on day 4
        share(c, Check.in(Check.people(3) + "fact a 3;nap c 3;"), 0, 2, 7, 2);
        share(c, Check.in("person a alone;fact a 5;"), 0, 2, 5, 1);
    }

    private static void noDayIs28(Check c) {
        c.says("III: .. (28, where there is none)");
        share(c, Check.in(Check.people(2) + "person c alone;fact a 0;"), 0, 2, 28, 1);
        share(c, Check.in(Check.people(3) + "fact a 27;"), 0, 2, 28, 1);
        // six turnings: day 5, three: none
        share(c, Check.in(Check.people(4) + "fact a 3;"), 0, 2, (6 * 5 + 3 * 28) / 3, 3);
        share(c, Check.in(Check.people(4) + "fact a 25;"), 0, 2, (6 * 27 + 3 * 28) / 3, 3);
        share(c, Check.in(Check.people(4) + "fact a 26;"), 0, 2, 28, 1);
        share(c, Check.in(Check.people(8) + "fact a 0;"), 0, 2, (5040 * 6 + 9793 * 28) / 7, 14833 / 7);
    }

    private static void lotDayRange(Check c) {
        c.says("31: RANGE");
        WhoseDay x = Check.in(Check.people(2) + "fact a 3;");
        for (int fact : new int[] {-1, 1, 12, Integer.MIN_VALUE, Integer.MAX_VALUE}) {
            c.due("lotDay(" + fact + ", false)", x.lotDay(fact, false), WhoseDay.RANGE);
            c.due("lotDay(" + fact + ", true)", x.lotDay(fact, true), WhoseDay.RANGE);
        }
        c.due("lotDay of nothing", new WhoseDay().lotDay(0, false), WhoseDay.RANGE);
        c.due("the twelfth fact", Check.in(Check.people(2) + "fact a 3;".repeat(12)).lotDay(11, false), 3);
    }

    // ---- 32

    private static void ringsInHowManyWays(Check c) {
        c.says("III: RINGS: of n people all of whom dream: in how many ways (none dreams himself) the rings "
            + "have told lengths");
        WhoseDay x = new WhoseDay();
        long[] oneRing = new long[21];
        oneRing[2] = 1;
        for (int n = 3; n <= 20; n++) {
            oneRing[n] = oneRing[n - 1] * (n - 1);
        }
        for (int n = 2; n <= 20; n++) {
            c.due("rings of " + n, Check.rings(x, String.valueOf(n)), oneRing[n]);
        }
        String[] texts = {"2 2", "2 3", "3 2", "3 3", "2 2 2", "2 4", "4 4", "2 3 3", "2 2 2 2", "18 2", "2 18", "10 10",
            "7 7 6", "7 6 7", "6 7 7", "5 5 5 5", "4 4 4 4 4"};
        long[] due = {3, 20, 20, 40, 15, 90, 1260, 1120, 105, FACTORIAL_20 / 36, FACTORIAL_20 / 36, FACTORIAL_20 / 200,
            FACTORIAL_20 / 588, FACTORIAL_20 / 588, FACTORIAL_20 / 588, FACTORIAL_20 / (625 * 24),
            FACTORIAL_20 / (1024 * 120)};
        for (int i = 0; i < texts.length; i++) {
            c.due("rings of " + texts[i], Check.rings(x, texts[i]), due[i]);
        }
    }

    private static void ringsOfNone(Check c) {
        c.says("32: (None: 1.)");
        WhoseDay x = new WhoseDay();
        c.due("rings of nothing", x.rings(), 1);
        c.due("rings of blanks", Check.rings(x, " \n "), 1);
        c.due("rings of 900 blanks", Check.rings(x, " ".repeat(900)), 1);
    }

    private static void ringsBounds(Check c) {
        c.says("32: THE TAPE is the lengths of rings {N} (2 .. 20 each, together n, 20 at most)");
        WhoseDay x = new WhoseDay();
        c.due("2", Check.rings(x, "2"), 1);
        c.due("1", Check.rings(x, "1"), WhoseDay.NONE);
        c.due("0", Check.rings(x, "0"), WhoseDay.NONE);
        c.due("20", Check.rings(x, "20"), FACTORIAL_20 / 20);
        c.due("21", Check.rings(x, "21"), WhoseDay.NONE);
        c.due("18 2", Check.rings(x, "18 2"), FACTORIAL_20 / 36);
        c.due("18 3", Check.rings(x, "18 3"), WhoseDay.NONE);
        c.due("19 2", Check.rings(x, "19 2"), WhoseDay.NONE);
        c.due("20 2", Check.rings(x, "20 2"), WhoseDay.NONE);
        c.due("2 20", Check.rings(x, "2 20"), WhoseDay.NONE);
        c.due("18 1", Check.rings(x, "18 1"), WhoseDay.NONE);
        c.due("18 0 2", Check.rings(x, "18 0 2"), WhoseDay.NONE);
        c.due("ten of 2", Check.rings(x, " 2".repeat(10)), 654729075L);
        c.due("eleven of 2", Check.rings(x, " 2".repeat(11)), WhoseDay.NONE);
        c.due("nine of 2", Check.rings(x, " 2".repeat(9)), 34459425L);
        c.due("four of 5", Check.rings(x, " 5".repeat(4)), FACTORIAL_20 / 15000);
        c.due("five of 5", Check.rings(x, " 5".repeat(5)), WhoseDay.NONE);
        c.due("zeros ahead", Check.rings(x, "0020"), FACTORIAL_20 / 20);
        c.due("any blanks", Check.rings(x, "\n2\n\n 3 \n"), 20);
    }

    private static void ringsNoSuchRow(Check c) {
        c.says("32: NONE: it is no such row");
        WhoseDay x = new WhoseDay();
        for (String wrong : new String[] {";", "2;", "2 2;", "a", "2 a", "a 2", "2a", "00002", "2,2", "-2", "2.", "9999",
            "99999", "2 00002", "2\t2", "2\u00002", "two", "2 2 ?"}) {
            c.due("rings of " + wrong, Check.rings(x, wrong), WhoseDay.NONE);
        }
        // no town has a part in it
        c.due("rings in a town", Check.rings(Check.in(Check.people(2)), "3 3"), 40);
    }

    // ---- 33

    private static void partsInHowManyWays(Check c) {
        c.says("33: In how many ways n people (0 .. 20) have k rings (0 .. 10)");
        long[][] due = {{1}, {0, 0}, {0, 1}, {0, 2}, {0, 6, 3}, {0, 24, 20}, {0, 120, 130, 15}, {0, 720, 924, 210},
            {0, 5040, 7308, 2380, 105}};
        WhoseDay x = new WhoseDay();
        for (int n = 0; n < due.length; n++) {
            for (int k = 0; k <= 10; k++) {
                c.due("parts(" + n + ", " + k + ")", x.parts(n, k), k < due[n].length ? due[n][k] : 0);
            }
        }
    }

    private static void partsEdges(Check c) {
        c.says("33: (n 0 .. 20, k 0 .. 10: the least and the greatest of each)");
        WhoseDay x = new WhoseDay();
        c.due("parts(0, 0)", x.parts(0, 0), 1);
        c.due("parts(0, 10)", x.parts(0, 10), 0);
        c.due("parts(1, 0)", x.parts(1, 0), 0);
        c.due("parts(1, 1)", x.parts(1, 1), 0);
        c.due("parts(20, 0)", x.parts(20, 0), 0);
        c.due("parts(20, 1)", x.parts(20, 1), FACTORIAL_20 / 20);
        c.due("parts(20, 10)", x.parts(20, 10), 654729075L);
        c.due("parts(19, 10)", x.parts(19, 10), 0);
        c.due("parts(18, 10)", x.parts(18, 10), 0);
        c.due("parts(18, 9)", x.parts(18, 9), 34459425L);
        // one ring of three, eight of two
        c.due("parts(19, 9)", x.parts(19, 9), Check.rings(x, "3" + " 2".repeat(8)));
        long sum = 0;
        for (int k = 0; k <= 10; k++) {
            sum += x.parts(20, k);
        }
        c.due("all turnings of 20", sum, 895014631192902121L);
    }

    private static void partsAndRings(Check c) {
        c.says("III: in how many there are k rings (all rows of lengths together)");
        for (int n : new int[] {2, 5, 9, 14, 20}) {
            long[] sums = new long[11];
            rowsOfLengths(n, 2, "", 0, sums);
            WhoseDay x = new WhoseDay();
            for (int k = 0; k <= 10; k++) {
                c.due("parts(" + n + ", " + k + ")", x.parts(n, k), sums[k]);
            }
        }
    }

    /** Adds what rings() says of each row of lengths, never falling, from a least one on. */
    private static void rowsOfLengths(int left, int least, String row, int many, long[] sums) {
        if (left == 0) {
            sums[many] += Check.rings(new WhoseDay(), row);
        }
        for (int length = least; length <= left; length++) {
            rowsOfLengths(left - length, length, row + " " + length, many + 1, sums);
        }
    }

    private static void partsRange(Check c) {
        c.says("33: RANGE (-2)");
        WhoseDay x = new WhoseDay();
        int[][] wrong = {{-1, 0}, {21, 0}, {21, 10}, {0, -1}, {0, 11}, {20, 11}, {-1, -1}, {20, -1}};
        for (int[] w : wrong) {
            c.due("parts(" + w[0] + ", " + w[1] + ")", x.parts(w[0], w[1]), -2);
        }
        for (int far : Check.FAR) {
            c.due("parts(far, 0)", x.parts(far, 0), WhoseDay.RANGE);
            c.due("parts(0, far)", x.parts(0, far), WhoseDay.RANGE);
        }
    }
}
