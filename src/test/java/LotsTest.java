/** Promises 30 to 33: lot, lotDay, rings, parts. */
public final class LotsTest {
    public static void main(String[] args) {
        Check c = new Check();
        lots(c);
        ringLengths(c);
        ringCounts(c);
        c.end("LotsTest");
    }

    private static void share(Check c, WhoseDay x, int fact, int day, int what, int upper, int lower) {
        String call = "lot(" + fact + ", " + day + ", " + what + ")";
        c.due(call, x.lot(fact, day, what, false), upper);
        c.due(call + " lower", x.lot(fact, day, what, true), lower);
    }

    /** Four: six turnings of one ring, three of two rings. */
    private static void lots(Check c) {
        WhoseDay x = Check.in("person a;person b;person c;person d;fact a 3;");
        share(c, x, 0, 2, 0, 0, 1);
        share(c, x, 0, 3, 0, 2, 1);
        share(c, x, 0, 4, 0, 8, 3);
        share(c, x, 0, 5, 0, 10, 3);
        share(c, x, 0, 27, 0, 10, 3);
        share(c, x, 0, 4, 1, 0, 1);
        share(c, x, 0, 5, 1, 2, 3);
        c.due("lotDay(0)", x.lotDay(0, false), 38);
        c.due("lotDay(0) lower", x.lotDay(0, true), 3);
        WhoseDay y = Check.in("person a;person b;person c alone;fact a 9;talk a c 28;fact c 0;");
        share(c, y, 0, 9, 0, 2, 1);
        share(c, y, 0, 27, 1, 0, 1);
        share(c, y, 1, 0, 0, 3, 1);
        share(c, y, 1, 0, 1, 1, 1);
        c.due("lotDay(0) never", y.lotDay(0, false), 28);
        c.due("lotDay(0) never, lower", y.lotDay(0, true), 1);
        c.due("lotDay(1) at once", y.lotDay(1, false), 0);
        c.due("lotDay(1) at once, lower", y.lotDay(1, true), 1);
        // turn and acts have no part in it
        x.turn(3);
        x.act(0, 4, 1, 0, 1);
        share(c, x, 0, 4, 0, 8, 3);
        int[][] wrong = {{-1, 0, 0}, {1, 0, 0}, {0, -1, 0}, {0, 28, 0}, {0, 0, -1}, {0, 0, 2}};
        for (int[] w : wrong) {
            c.due("lot of wrong numbers", x.lot(w[0], w[1], w[2], false), WhoseDay.RANGE);
            c.due("lot of wrong numbers, lower", x.lot(w[0], w[1], w[2], true), WhoseDay.RANGE);
        }
        c.due("lotDay(-1)", x.lotDay(-1, false), WhoseDay.RANGE);
        c.due("lotDay(1)", x.lotDay(1, true), WhoseDay.RANGE);
        WhoseDay eight = Check.in("person a;person b;person c;person d;person e;person f;person g;person h;fact a 0;");
        // one ring of all eight in 5040 of 14833 turnings
        share(c, eight, 0, 6, 1, 5040 / 7, 14833 / 7);
        share(c, eight, 0, 0, 0, 2, 1);
        // a smaller town behind it
        Check.town(eight, "person a;person b;person c;person d;fact a 3;");
        share(c, eight, 0, 4, 0, 8, 3);
        share(c, eight, 0, 5, 1, 2, 3);
        c.due("lotDay(0) of the smaller", eight.lotDay(0, false), 38);
    }

    private static void ringLengths(Check c) {
        WhoseDay x = new WhoseDay();
        c.due("rings of none", Check.rings(x, ""), 1);
        c.due("rings of blanks", Check.rings(x, " \n"), 1);
        c.due("rings 2", Check.rings(x, "2"), 1);
        c.due("rings 3", Check.rings(x, "3"), 2);
        c.due("rings 2 2", Check.rings(x, "2 2"), 3);
        c.due("rings 2 3", Check.rings(x, "2 3"), 20);
        c.due("rings 3 2", Check.rings(x, "\n3\n2 "), 20);
        c.due("rings 3 3", Check.rings(x, "3 3"), 40);
        c.due("rings 20", Check.rings(x, "20"), 121645100408832000L);
        c.due("rings of ten pairs", Check.rings(x, "2 2 2 2 2 2 2 2 2 2"), 654729075L);
        c.due("rings 10 10", Check.rings(x, "10 0010"), 2432902008176640000L / 200);
        for (String wrong : new String[] {"1", "0", "21", "20 2", "2 2 2 2 2 2 2 2 2 2 2", "19 2", "2;", ";", "a", "2 a",
            "00002", "2,2", "2 1", "9999", "12 9"}) {
            c.due("rings of " + wrong, Check.rings(x, wrong), WhoseDay.NONE);
        }
    }

    private static void ringCounts(Check c) {
        WhoseDay x = new WhoseDay();
        long[][] due = {{0, 0, 1}, {0, 1, 0}, {1, 0, 0}, {1, 1, 0}, {2, 0, 0}, {2, 1, 1}, {2, 2, 0}, {3, 1, 2}, {4, 1, 6},
            {4, 2, 3}, {5, 2, 20}, {6, 1, 120}, {6, 2, 130}, {6, 3, 15}, {20, 1, 121645100408832000L},
            {20, 10, 654729075L}, {19, 10, 0}, {20, 0, 0}};
        for (long[] d : due) {
            c.due("parts(" + d[0] + ", " + d[1] + ")", x.parts((int) d[0], (int) d[1]), d[2]);
        }
        long[] turnings = {1, 0, 1, 2, 9, 44, 265, 1854, 14833};
        for (int n = 0; n <= 8; n++) {
            long sum = 0;
            for (int k = 0; k <= 10; k++) {
                sum += x.parts(n, k);
            }
            c.due("parts of " + n + " in all", sum, turnings[n]);
        }
        long sum = 0;
        for (int k = 0; k <= 10; k++) {
            sum += x.parts(20, k);
        }
        c.due("parts of 20 in all", sum, 895014631192902121L);
        int[][] wrong = {{-1, 0}, {21, 0}, {0, -1}, {0, 11}, {Integer.MIN_VALUE, 0}, {0, Integer.MAX_VALUE}};
        for (int[] w : wrong) {
            c.due("parts of wrong numbers", x.parts(w[0], w[1]), WhoseDay.RANGE);
        }
    }
}
