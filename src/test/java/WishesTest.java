/** Promises 21 to 26 and 29: wishes, met, plan, said, over, skill, kept. */
public final class WishesTest {
    private static final String THREE = "person a;person b;person c;";

    public static void main(String[] args) {
        Check c = new Check();
        meeting(c);
        planning(c);
        keeping(c);
        signs(c);
        skills(c);
        c.end("WishesTest");
    }

    /** a dreams b, b dreams c, c dreams a: from a to c in night 3, to b in night 4. */
    private static void meeting(Check c) {
        WhoseDay x = Check.in(THREE + "fact a 3;want c 0 3;want c 0 2;hide b 0 3;hide b 0 4;want a 5 27;hide a 5 27;");
        c.due("wishes()", x.wishes(), 6);
        c.due("met(0)", x.met(0), 1 | 4 | 32);
        c.due("met(1)", x.met(1), 4 | 8 | 32);
        c.due("met(4)", x.met(4), 1 | 4 | 8 | 32);
        c.due("met(7)", x.met(7), 4 | 8 | 32);
        c.due("met(8)", x.met(8), WhoseDay.RANGE);
        c.due("met(-1)", x.met(-1), WhoseDay.RANGE);
        c.due("met(MIN)", x.met(Integer.MIN_VALUE), WhoseDay.RANGE);
        c.due("plan()", x.plan(), 4);
        x.turn(1);
        // a dreams c, c dreams b, b dreams a
        c.due("met(0) by turning 1", x.met(0), 32);
        c.due("plan() by turning 1", x.plan(), 1);
        WhoseDay eight = Check.in("person a;person b;person c;person d;person e;person f;person g;person h;");
        c.due("met(255)", eight.met(255), 0);
        c.due("met(256)", eight.met(256), WhoseDay.RANGE);
    }

    private static void planning(Check c) {
        c.due("no wishes", Check.in(THREE).plan(), 0);
        // to keep it from b, either a or c may be dull: the least bits
        c.due("the least bits", Check.in(THREE + "fact a 3;hide b 0 9;").plan(), 1);
        // c is to know it, b isn't
        c.due("only c", Check.in(THREE + "fact a 3;hide b 0 9;want c 0 9;").plan(), 4);
        // dull days that are told stay: nobody needs to be kept dull
        c.due("told already", Check.in(THREE + "fact a 3;hide b 0 9;dull a 0 20;").plan(), 0);
        c.due("the most wishes", Check.in(THREE + "fact a 3;fact b 3;hide b 0 9;hide c 0 9;want a 1 9;hide a 1 9;"
            + "hide c 1 9;").plan(), 1);
        c.due("not by talks", Check.in(THREE + "fact a 3;hide b 0 9;talk a b 6;").plan(), 0);
    }

    private static void keeping(Check c) {
        WhoseDay x = Check.in(THREE + "fact a 3;fact b 9;");
        c.due("kept from b", x.kept(1, 0, 20), 1);
        c.due("kept from b up to day 3", x.kept(1, 0, 3), 0);
        c.due("kept from b up to day 4", x.kept(1, 0, 4), 1);
        c.due("kept from c", x.kept(2, 0, 3), 1);
        c.due("kept from the owner", x.kept(0, 0, 3), WhoseDay.NONE);
        c.due("kept from the owner ahead", x.kept(0, 0, 2), 0);
        // b to a in night 9, to c in night 10
        c.due("kept from c, by a or b", x.kept(2, 1, 10), 1);
        c.due("kept from a", x.kept(0, 1, 10), 2);
        WhoseDay y = Check.in(THREE + "fact a 3;fact c 3;talk a c 3;talk b c 28;");
        c.due("talks can't be kept", y.kept(2, 0, 3), WhoseDay.NONE);
        c.due("c alone is dreamt by b", y.kept(1, 0, 27), 4);
        WhoseDay z = Check.in("person a;person b;person c;person d;fact a 0;talk a c 1;dreams d a;dreams b c;");
        // c has it by talks; b dreams c, d dreams a; whoever of a and c dreams d or b
        c.due("kept from d", z.kept(3, 0, 27) & 1, 1);
        int[][] wrong = {{-1, 0, 0}, {3, 0, 0}, {0, -1, 0}, {0, 2, 0}, {0, 0, -1}, {0, 0, 28}};
        for (int[] w : wrong) {
            c.due("kept of wrong numbers", x.kept(w[0], w[1], w[2]), WhoseDay.RANGE);
        }
    }

    private static void sign(Check c, WhoseDay x, int from, int to, int day, int... due) {
        String call = "(" + from + ", " + to + ", " + day + ")";
        c.due("said" + call, x.said(from, to, day), due[0]);
        for (int i = 1; i < due.length; i++) {
            c.due("over" + call + " " + (i - 1), x.over(from, to, day, i - 1), due[i]);
        }
        c.due("over" + call + " beyond", x.over(from, to, day, due.length - 1), WhoseDay.NONE);
        c.due("over" + call + " far", x.over(from, to, day, Integer.MAX_VALUE), WhoseDay.NONE);
        c.due("over" + call + " below", x.over(from, to, day, -1), WhoseDay.RANGE);
    }

    private static void signs(Check c) {
        WhoseDay x = Check.in(THREE + "person d;person e;person f alone;dreams a b;dreams b c;dreams c a;"
            + "dull a 5 7;dull c 9 9;dull c 10 11;dull b 20 27;");
        sign(c, x, 0, 2, 0, 0, 0, 2);
        sign(c, x, 0, 1, 0, 1, 0, 2, 1);
        sign(c, x, 0, 2, 5, 8, 0, 2);
        sign(c, x, 0, 1, 5, 12, 0, 2, 1);
        sign(c, x, 1, 0, 19, 19, 1, 0);
        sign(c, x, 1, 0, 20, -1);
        sign(c, x, 0, 1, 26, 27, 0, 2, 1);
        sign(c, x, 0, 1, 27, -1);
        sign(c, x, 0, 2, 27, 27, 0, 2);
        sign(c, x, 3, 4, 27, 27, 3, 4);
        sign(c, x, 0, 3, 0, -1);
        sign(c, x, 0, 5, 0, -1);
        sign(c, x, 5, 0, 0, -1);
        c.due("said to himself", x.said(5, 5, 0), WhoseDay.STATE);
        c.due("over to himself", x.over(1, 1, 0, 0), WhoseDay.STATE);
        int[][] wrong = {{-1, 0, 0}, {6, 0, 0}, {0, -1, 0}, {0, 6, 0}, {0, 1, -1}, {0, 1, 28}, {6, 6, 0}, {0, 0, 28}};
        for (int[] w : wrong) {
            c.due("said of wrong numbers", x.said(w[0], w[1], w[2]), WhoseDay.RANGE);
            c.due("over of wrong numbers", x.over(w[0], w[1], w[2], 0), WhoseDay.RANGE);
        }
        c.due("over to himself below", x.over(1, 1, 0, -1), WhoseDay.RANGE);
        WhoseDay ring = Check.in("person a;person b;person c;person d;person e;person f;person g;person h;dreams b a;"
            + "dreams c b;dreams d c;dreams e d;dreams f e;dreams g f;dreams h g;dreams a h;");
        sign(c, ring, 0, 7, 3, 9, 0, 1, 2, 3, 4, 5, 6, 7);
        sign(c, ring, 0, 7, 21, 27, 0, 1, 2, 3, 4, 5, 6, 7);
        sign(c, ring, 0, 7, 22, -1);
    }

    private static void skills(Check c) {
        WhoseDay x = Check.in(THREE + "trade a 10;trade b 99;dull b 1 1;");
        // day 0: 10, 99, 0; a dreams b: 22 more; b dreams c; c dreams a: 2 more
        int[][] due = {{32, 99, 2}, {42, 198, 12}, {52 + (297 - 52) / 4, 297, 12 + 10}};
        for (int day = 0; day < due.length; day++) {
            for (int p = 0; p < 3; p++) {
                c.due("skill(" + p + ", " + day + ")", x.skill(p, day), due[day][p]);
            }
        }
        c.due("skill(1, 27)", x.skill(1, 27), 2772);
        c.due("no trade", Check.in(THREE).skill(0, 27), 0);
        c.due("one alone", Check.in("person a;person b;person c alone;trade c 3;").skill(2, 9), 30);
        int[][] wrong = {{-1, 0}, {3, 0}, {0, -1}, {0, 28}};
        for (int[] w : wrong) {
            c.due("skill of wrong numbers", x.skill(w[0], w[1]), WhoseDay.RANGE);
        }
    }
}
