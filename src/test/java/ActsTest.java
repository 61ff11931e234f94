/** Promises 15 to 20: act, right, fit, sure, ask, knowers. */
public final class ActsTest {
    private static final String FOUR = "person a;person b;person c;person d;fact a 3;";

    public static void main(String[] args) {
        Check c = new Check();
        telling(c);
        puttingRight(c);
        fitting(c);
        asking(c);
        knowing(c);
        noneFits(c);
        c.end("ActsTest");
    }

    private static void telling(Check c) {
        WhoseDay x = Check.in(FOUR);
        int[][] wrong = {{-1, 0, 0, 0, 0}, {1000, 0, 0, 0, 0}, {0, -1, 0, 0, 0}, {0, 28, 0, 0, 0}, {0, 0, -1, 0, 0},
            {0, 0, 4, 0, 0}, {0, 0, 0, -1, 0}, {0, 0, 0, 1, 0}, {0, 0, 0, 0, -1}, {0, 0, 0, 0, 2}};
        for (int[] w : wrong) {
            c.due("act of wrong numbers", x.act(w[0], w[1], w[2], w[3], w[4]), WhoseDay.RANGE);
        }
        c.due("count(1)", x.count(1), 0);
        for (int i = 0; i < 16; i++) {
            c.due("act " + i, x.act(i / 2 * 100, 27, 0, 0, 1), i);
        }
        c.due("count(1)", x.count(1), 16);
        c.due("the 17th", x.act(999, 27, 0, 0, 1), WhoseDay.FULL);
        c.due("the 17th, at an earlier step", x.act(699, 27, 0, 0, 1), WhoseDay.RANGE);
        // what had no room is not told, and no step is taken by it
        c.due("right at an earlier step", x.right(699, 0, 1), WhoseDay.RANGE);
        c.due("right at the latest step", x.right(700, 0, 1), 1);
        c.due("fit(999, 0)", x.fit(999, 0), 9);
    }

    private static void puttingRight(Check c) {
        WhoseDay x = Check.in(FOUR);
        c.due("right of none", x.right(0, 0, 0), WhoseDay.RANGE);
        x.act(5, 4, 1, 0, 1);
        x.act(5, 4, 2, 0, 1);
        int[][] wrong = {{4, 0, 0}, {1000, 0, 0}, {-1, 0, 0}, {5, -1, 0}, {5, 2, 0}, {5, 0, -1}, {5, 0, 2}};
        for (int[] w : wrong) {
            c.due("right of wrong numbers", x.right(w[0], w[1], w[2]), WhoseDay.RANGE);
        }
        c.due("right", x.right(5, 1, 0), 1);
        c.due("right again", x.right(6, 1, 0), 2);
        c.due("right of the other", x.right(7, 0, 1), 1);
        c.due("act at an earlier step", x.act(6, 4, 1, 0, 1), WhoseDay.RANGE);
        c.due("count(2)", x.count(2), 3);
        for (int i = 3; i < 20; i++) {
            c.due("right " + i, x.right(999, 1, i % 2), i);
        }
        c.due("the 21st", x.right(999, 1, 0), WhoseDay.FULL);
        c.due("the 21st of the other", x.right(999, 0, 0), WhoseDay.FULL);
        c.due("the 21st of none", x.right(999, 2, 0), WhoseDay.RANGE);
        c.due("count(2)", x.count(2), 20);
        c.due("act", x.act(999, 0, 0, 0, 0), 2);
    }

    /**
     * Of four, a has the fact on day 3. Behind its night his dreamer has it, behind the next one
     * that one's. By rows: 1032 1230 1302 2031 2301 2310 3012 3201 3210.
     */
    private static void fitting(Check c) {
        WhoseDay x = Check.in(FOUR);
        c.due("fit(0, 0)", x.fit(0, 0), 9);
        c.due("fit(0, 1)", x.fit(0, 1), 0);
        c.due("fit(0, 2)", x.fit(0, 2), 8);
        c.due("sure(0, 0)", x.sure(0, 0), 14);
        c.due("sure(3, 0)", x.sure(3, 0), 7);
        // on day 4 b knows: b dreams a: 1032 2031 3012
        x.act(10, 4, 1, 0, 1);
        c.due("fit(10, 0)", x.fit(10, 0), 3);
        c.due("fit(10, 1)", x.fit(10, 1), 0);
        c.due("fit(10, 2)", x.fit(10, 2), 6);
        c.due("fit(9, 0)", x.fit(9, 0), 9);
        c.due("sure(1, 10)", x.sure(1, 10), 1);
        c.due("sure(0, 10)", x.sure(0, 10), 14);
        c.due("sure(2, 10)", x.sure(2, 10), 10);
        // on day 5 c doesn't: not 3012
        x.act(12, 5, 2, 0, 0);
        c.due("fit(12, 0)", x.fit(12, 0), 2);
        c.due("fit(11, 0)", x.fit(11, 0), 3);
        c.due("fit(12, 2)", x.fit(12, 2), 3);
        // put right: b did not know on day 4: 1230 1302 2301 2310 3201 3210; c neither on day 5:
        // who dreams a is c in 2301 3201, d in 1230 2310 3210 (c dreams d in 1230), ...
        x.right(15, 0, 0);
        c.due("fit(14, 0)", x.fit(14, 0), 2);
        c.due("fit(15, 0)", x.fit(15, 0), 2);
        c.due("fit(15, 1)", x.fit(15, 1), 5);
        c.due("fit(15, 2)", x.fit(15, 2), 8);
        c.due("sure(3, 15)", x.sure(3, 15), 1);
        x.right(20, 1, 1);
        c.due("fit(20, 0)", x.fit(20, 0), 4);
        c.due("fit(20, 1)", x.fit(20, 1), 1);
        c.due("fit(20, 2)", x.fit(20, 2), 7);
        c.due("fit(999, 0)", x.fit(999, 0), 4);
        c.due("the turning is as it was", x.dreams(0), 1);
        int[][] wrong = {{-1, 0}, {1000, 0}, {0, -1}, {0, 3}};
        for (int[] w : wrong) {
            c.due("fit of wrong numbers", x.fit(w[0], w[1]), WhoseDay.RANGE);
        }
        int[][] wrongSure = {{-1, 0}, {4, 0}, {0, -1}, {0, 1000}};
        for (int[] w : wrongSure) {
            c.due("sure of wrong numbers", x.sure(w[0], w[1]), WhoseDay.RANGE);
        }
        WhoseDay y = Check.in("person a;person b;person c alone;");
        c.due("sure of one alone", y.sure(2, 0), 0);
        c.due("sure of one of two", y.sure(0, 999), 2);
    }

    private static void asking(Check c) {
        // 9 turnings: on day 4 b knows by 3 of them; on day 5 by 3 + 2 (c dreams a and b dreams c,
        // d dreams a and b dreams d): 1230 no, 1302 no, 2301 no, 2310 yes, 3201 yes
        WhoseDay x = Check.in(FOUR);
        c.due("ask(0)", x.ask(0), 1);
        c.due("ask(1)", x.ask(1), 0);
        c.due("ask(2)", x.ask(2), 5);
        c.due("ask(3)", x.ask(3), WhoseDay.RANGE);
        c.due("ask(-1)", x.ask(-1), WhoseDay.RANGE);
        // told, three of four are left: 1032 2031 3012 by which b dreams a
        x.act(0, 4, 1, 0, 1);
        // c knows on day 5 by 3012 alone; on day 6 by 3012 and 2031
        c.due("ask(0) then", x.ask(0), 2);
        c.due("ask(1) then", x.ask(1), 0);
        c.due("ask(2) then", x.ask(2), 5);
        x.act(999, 5, 2, 0, 1);
        c.due("ask(0) at last", x.ask(0), WhoseDay.NONE);
        c.due("ask(1) at last", x.ask(1), WhoseDay.NONE);
        c.due("ask(2) at last", x.ask(2), WhoseDay.NONE);
        x.right(999, 1, 0);
        c.due("ask(0) put right", x.ask(0), 2);
        c.due("ask(2) put right", x.ask(2), 6);
        c.due("no facts", Check.in("person a;person b;person c;").ask(0), WhoseDay.NONE);
        // the least fact of two that are alike
        WhoseDay y = Check.in("person a;person b;person c;fact a 27;fact a 5;fact a 5;");
        c.due("ask(0) of two alike", y.ask(0), 1);
        c.due("ask(1) of two alike", y.ask(1), 1);
        c.due("ask(2) of two alike", y.ask(2), 6);
        // what comes in the last night is too late to be asked for
        WhoseDay z = Check.in("person a;person b;person c;fact a 27;");
        c.due("ask(0) of the last night", z.ask(0), WhoseDay.NONE);
    }

    private static void knowing(Check c) {
        WhoseDay x = Check.in(FOUR);
        c.due("surely on day 2", x.knowers(0, 2, 0, 0), 0);
        c.due("perhaps on day 2", x.knowers(0, 2, 0, 1), 0);
        c.due("surely on day 3", x.knowers(0, 3, 0, 0), 1);
        c.due("perhaps on day 3", x.knowers(0, 3, 0, 1), 15);
        x.act(10, 4, 1, 0, 1);
        c.due("surely on day 3 then", x.knowers(0, 3, 10, 0), 3);
        c.due("perhaps on day 3 then", x.knowers(0, 3, 10, 1), 3);
        c.due("surely on day 3 as known ahead", x.knowers(0, 3, 9, 0), 1);
        c.due("perhaps on day 4 then", x.knowers(0, 4, 10, 1), 15);
        int[][] wrong = {{-1, 0, 0, 0}, {1, 0, 0, 0}, {0, -1, 0, 0}, {0, 28, 0, 0}, {0, 0, -1, 0}, {0, 0, 1000, 0},
            {0, 0, 0, -1}, {0, 0, 0, 2}};
        for (int[] w : wrong) {
            c.due("knowers of wrong numbers", x.knowers(w[0], w[1], w[2], w[3]), WhoseDay.RANGE);
        }
    }

    private static void noneFits(Check c) {
        WhoseDay x = Check.in(FOUR);
        x.act(1, 27, 0, 0, 0);
        c.due("fit(1, 0)", x.fit(1, 0), 0);
        c.due("fit(1, 1)", x.fit(1, 1), WhoseDay.NONE);
        c.due("fit(1, 2)", x.fit(1, 2), WhoseDay.NONE);
        c.due("sure(0, 1)", x.sure(0, 1), 0);
        c.due("surely", x.knowers(0, 27, 1, 0), 0);
        c.due("perhaps", x.knowers(0, 27, 1, 1), 0);
        c.due("ask(0)", x.ask(0), WhoseDay.NONE);
        c.due("fit(0, 0)", x.fit(0, 0), 9);
    }
}
