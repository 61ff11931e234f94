/** Edges of wishes, signs, skills and what is kept (term III), promises 21 to 26 and 29, sentence by sentence. */
public final class EdgesWishTest {
    /** a dreams b, b dreams c, c dreams a: what a knows comes to c, then to b. */
    private static final String THREE = Check.people(3);
    /** b dreams a, c dreams b and on, a dreams h: signs of a come to b, then to c and on. */
    private static final String RING = Check.people(8) + "dreams a h;dreams b a;dreams c b;dreams d c;dreams e d;"
        + "dreams f e;dreams g f;dreams h g;";
    /** a and b know it; c dreams a, d dreams b; both tell e, whom f dreams. */
    private static final String ROADS = Check.people(6) + "fact a 0;talk a b 1;dreams c a;dreams d b;talk c e 1;"
        + "talk d e 1;dreams f e;";

    public static void main(String[] args) {
        Check c = new Check();
        howManyWishes(c);
        wishesByNumbers(c);
        wishesBehindTheNight(c);
        wishesOfNoFact(c);
        metBesides(c);
        metRange(c);
        planMost(c);
        planFewest(c);
        planLeastBits(c);
        saidInThatNight(c);
        saidFromTheNextDay(c);
        saidNotDull(c);
        saidNone(c);
        saidState(c);
        saidRange(c);
        overWhom(c);
        overNone(c);
        overState(c);
        overRange(c);
        skillsByDay(c);
        skillsByNight(c);
        skillRange(c);
        keptFewest(c);
        keptLeastBits(c);
        keptNone(c);
        keptRange(c);
        c.end("EdgesWishTest");
    }

    // ---- 21 to 23

    private static void howManyWishes(Check c) {
        c.says("21: How many WISHES there are");
        c.due("of nothing", new WhoseDay().wishes(), 0);
        c.due("none", Check.in(THREE).wishes(), 0);
        for (int n = 1; n <= 8; n++) {
            c.due(n + " wants", Check.in(THREE + "want a 0 0;".repeat(n)).wishes(), n);
            c.due(n + " hides", Check.in(THREE + "hide a 0 0;".repeat(n)).wishes(), n);
            c.due("both", Check.in(THREE + "want a 0 0;".repeat(n - 1) + "hide a 0 0;").wishes(), n);
        }
    }

    private static void wishesByNumbers(Check c) {
        c.says("I: WISHES, numbered as they come; 22: MET ..: WISHES as bits");
        WhoseDay x = Check.in(THREE + "fact a 0;hide b 0 27;want b 0 27;hide a 0 27;want a 0 27;want c 0 27;hide c 0 27;"
            + "hide c 0 27;want c 0 27;");
        c.due("met(0)", x.met(0), 0b10011010);
        c.due("met(7)", x.met(7), 0b01101001);
        c.due("met(0) without wishes", Check.in(THREE).met(0), 0);
        c.due("all eight", Check.in(THREE + "fact a 0;" + "want a 0 0;".repeat(8)).met(0), 255);
    }

    private static void wishesBehindTheNight(Check c) {
        c.says("I: want: a PERSON is to know a FACT .. by a DAY 0 .. 27 (behind its NIGHT)");
        WhoseDay x = Check.in(THREE + "fact a 3;want a 0 2;want a 0 3;want c 0 2;want c 0 3;want b 0 3;want b 0 4;"
            + "want b 0 27;want a 0 0;");
        c.due("met(0)", x.met(0), 0b01101010);
        c.says("I: hide: it is not to know it by then");
        WhoseDay y = Check.in(THREE + "fact a 3;hide a 0 2;hide a 0 3;hide c 0 2;hide c 0 3;hide b 0 3;hide b 0 4;"
            + "hide b 0 27;hide a 0 0;");
        c.due("met(0)", y.met(0), 0b10010101);
        c.says("I: want, hide: .. by a DAY 0 .. 27");
        WhoseDay z = Check.in(THREE + "fact a 0;fact a 27;want c 0 0;hide c 1 26;want c 1 27;hide c 1 27;want b 1 27;");
        c.due("met(0)", z.met(0), 0b00111);
    }

    private static void wishesOfNoFact(Check c) {
        c.says("I: want: .. a FACT (by its number 0 .. 11, whether there is one or not)");
        WhoseDay x = Check.in(THREE + "fact a 0;want a 1 27;hide a 1 27;want a 11 27;hide a 11 0;want a 0 27;");
        c.due("met(0)", x.met(0), 0b11010);
        WhoseDay y = Check.in(THREE + "want b 0 27;hide b 0 27;");
        c.due("met(0) without facts", y.met(0), 2);
        c.due("plan() without facts", y.plan(), 0);
        WhoseDay z = Check.in(THREE + "fact a 0;".repeat(12) + "want a 11 0;hide a 11 0;");
        c.due("met(0) of the twelfth", z.met(0), 1);
        // told ahead of the fact
        WhoseDay w = Check.in(THREE + "want a 0 5;fact a 5;");
        c.due("met(0) told ahead", w.met(0), 1);
    }

    private static void metBesides(Check c) {
        c.says("III: MET: .. by THE TURNING, all WAYS, a set of PEOPLE being DULL on all DAYS besides");
        WhoseDay x = Check.in(THREE + "fact a 0;want c 0 27;want b 0 27;");
        int[] due = {3, 0, 3, 0, 1, 0, 1, 0};
        for (int set = 0; set < 8; set++) {
            c.due("met(" + set + ")", x.met(set), due[set]);
        }
        x.turn(1);
        int[] other = {3, 0, 2, 0, 3, 0, 2, 0};
        for (int set = 0; set < 8; set++) {
            c.due("met(" + set + ") by the other turning", x.met(set), other[set]);
        }
        // on all days, the first and the last, too; and as told besides
        WhoseDay y = Check.in(Check.people(2) + "fact a 0;fact a 27;want b 0 0;want b 1 27;dull b 0 27;");
        c.due("met(0)", y.met(0), 3);
        c.due("met(1)", y.met(1), 0);
        WhoseDay z = Check.in(Check.people(2) + "fact a 0;dull a 0 26;want b 0 26;want b 0 27;");
        c.due("met(0) as told", z.met(0), 2);
        c.due("met(1) besides", z.met(1), 0);
        c.due("met(2) besides", z.met(2), 2);
        WhoseDay ways = Check.in(THREE + "fact a 3;want b 0 27;want c 0 27;talk a b 5;nap c 3;");
        c.due("met(1) by talks, not by naps", ways.met(1), 1);
        c.due("met(5)", ways.met(5), 1);
        // it is asked for, not kept
        c.due("comes as told", ways.comes(2, 0, 7, 0), 3);
        c.due("met(0) then", ways.met(0), 3);
    }

    private static void metRange(Check c) {
        c.says("22: RANGE");
        for (int n = 2; n <= 8; n++) {
            WhoseDay x = Check.in(Check.people(n));
            c.due("met of all " + n, x.met((1 << n) - 1), 0);
            c.due("met of one more than " + n, x.met(1 << n), WhoseDay.RANGE);
            c.due("met(-1)", x.met(-1), WhoseDay.RANGE);
            for (int far : Check.FAR) {
                c.due("met(" + far + ")", x.met(far), WhoseDay.RANGE);
            }
        }
        c.due("met(0) of nothing", new WhoseDay().met(0), 0);
        c.due("met(1) of nothing", new WhoseDay().met(1), WhoseDay.RANGE);
    }

    private static void planMost(Check c) {
        c.says("III: PLAN: the set with which the most are");
        // the one wish of c against the two of b, then the other way about
        c.due("two against one", Check.in(THREE + "fact a 3;want c 0 3;hide c 0 9;hide c 0 8;").plan(), 1);
        c.due("one against two", Check.in(THREE + "fact a 3;want c 0 3;want c 0 9;hide c 0 8;").plan(), 0);
        c.due("four who are dull", Check.in(Check.people(8) + "fact a 0;fact c 0;fact e 0;fact g 0;hide b 0 27;"
            + "hide d 1 27;hide f 2 27;hide h 3 27;").plan(), 0b01010101);
        c.due("no wishes", Check.in(THREE).plan(), 0);
        c.due("of nothing", new WhoseDay().plan(), 0);
        // c has it of a, b of c; by the other turning b has it of a, c of b
        WhoseDay x = Check.in(THREE + "fact a 3;hide c 0 9;want b 0 9;");
        c.due("by THE TURNING one of both", x.plan(), 0);
        x.turn(1);
        c.due("by the other both", x.plan(), 2);
    }

    private static void planFewest(Check c) {
        c.says("III: PLAN: .. of these with the fewest PEOPLE");
        // by e alone, or by a and b, whose bits are less
        c.due("e alone", Check.in(ROADS + "hide f 0 27;").plan(), 16);
        c.due("nobody", Check.in(THREE + "fact a 3;hide c 0 2;want b 0 4;").plan(), 0);
    }

    private static void planLeastBits(Check c) {
        c.says("III: PLAN: .. the least bits");
        c.due("a or c", Check.in(THREE + "fact a 3;hide b 0 27;").plan(), 1);
        c.due("b or c", Check.in(THREE + "fact c 3;hide a 0 27;").plan(), 2);
        c.due("a or b", Check.in(THREE + "fact b 3;hide c 0 27;").plan(), 1);
        c.due("b or c, not a", Check.in(Check.people(4) + "dreams d c;dreams c b;dreams b a;fact a 0;want b 0 27;"
            + "hide d 0 27;").plan(), 2);
        c.due("the last of eight", Check.in(RING + "fact h 0;hide a 0 27;").plan(), 128);
    }

    // ---- 24

    private static void saidInThatNight(Check c) {
        c.says("III: A SIGN: who makes one on a DAY is understood by whom it is that dreams him, in that NIGHT");
        WhoseDay x = Check.in(Check.people(2) + "person c alone;");
        for (int day = 0; day < 28; day++) {
            c.due("said(0, 1, " + day + ")", x.said(0, 1, day), day);
            c.due("said(1, 0, " + day + ")", x.said(1, 0, day), day);
        }
        WhoseDay y = Check.in(THREE);
        // c dreams a: not b, whom a dreams
        c.due("said(0, 2, 5)", y.said(0, 2, 5), 5);
        c.due("said(0, 1, 5)", y.said(0, 1, 5), 6);
        y.turn(1);
        c.due("said(0, 1, 5) by the other turning", y.said(0, 1, 5), 5);
        c.due("said(0, 2, 5) by the other turning", y.said(0, 2, 5), 6);
    }

    private static void saidFromTheNextDay(Check c) {
        c.says("III: A SIGN: .. who understood one makes it on, from the next DAY on");
        WhoseDay x = Check.in(RING);
        for (int to = 1; to < 8; to++) {
            c.due("said(0, " + to + ", 3)", x.said(0, to, 3), 2 + to);
            c.due("the last day, said(0, " + to + ")", x.said(0, to, 28 - to), 27);
        }
        c.due("said(7, 6, 0), around the ring", x.said(7, 6, 0), 6);
        c.due("said(3, 2, 21), around the ring", x.said(3, 2, 21), 27);
    }

    private static void saidNotDull(Check c) {
        c.says("III: A SIGN: .. each makes it on the first DAY on which he isn't DULL (as told)");
        WhoseDay x = Check.in(RING + "dull a 5 7;dull b 10 10;dull b 11 12;dull c 0 3;dull c 20 27;dull h 0 27;");
        c.due("a, ahead of his dull days", x.said(0, 1, 4), 4);
        c.due("a, on the first of them", x.said(0, 1, 5), 8);
        c.due("a, on the last of them", x.said(0, 1, 7), 8);
        c.due("a, behind them", x.said(0, 1, 8), 8);
        c.due("b, ahead of them", x.said(0, 2, 8), 9);
        c.due("b, within them", x.said(0, 2, 9), 13);
        c.due("b, on the last one", x.said(0, 2, 11), 13);
        c.due("b, behind them", x.said(0, 2, 12), 13);
        c.due("both", x.said(0, 2, 5), 9);
        c.due("c on day 0", x.said(2, 3, 0), 4);
        c.due("c on day 19", x.said(2, 3, 19), 19);
        c.due("c on day 20", x.said(2, 3, 20), WhoseDay.NONE);
        c.due("who is dull understands", x.said(6, 7, 0), 0);
        c.due("who is dull on all days makes none", x.said(7, 0, 0), WhoseDay.NONE);
        c.due("nor makes one on", x.said(6, 0, 0), WhoseDay.NONE);
        c.due("nor does it come on over him", x.said(6, 1, 0), WhoseDay.NONE);
    }

    private static void saidNone(Check c) {
        c.says("24: NONE: not in these DAYS, or never");
        WhoseDay x = Check.in(RING);
        for (int to = 1; to < 8; to++) {
            c.due("one day too late, said(0, " + to + ")", x.said(0, to, 29 - to > 27 ? 27 : 29 - to),
                to == 1 ? 27 : WhoseDay.NONE);
        }
        WhoseDay y = Check.in(Check.people(4) + "person e alone;person f alone;");
        c.due("into another ring", y.said(0, 2, 0), WhoseDay.NONE);
        c.due("from another ring", y.said(3, 1, 0), WhoseDay.NONE);
        c.due("to one alone", y.said(0, 4, 0), WhoseDay.NONE);
        c.due("from one alone", y.said(4, 0, 0), WhoseDay.NONE);
        c.due("among those alone", y.said(4, 5, 0), WhoseDay.NONE);
        c.due("among those alone, the other way", y.said(5, 4, 0), WhoseDay.NONE);
        c.due("dull to the end", Check.in(Check.people(2) + "dull a 4 27;").said(0, 1, 4), WhoseDay.NONE);
        c.due("dull but for the last day", Check.in(Check.people(2) + "dull a 4 26;").said(0, 1, 4), 27);
    }

    private static void saidState(Check c) {
        c.says("24: STATE: it is the same");
        WhoseDay x = Check.in(Check.people(2) + "person c alone;");
        for (int p = 0; p < 3; p++) {
            c.due("said(" + p + ", " + p + ", 0)", x.said(p, p, 0), WhoseDay.STATE);
            c.due("said(" + p + ", " + p + ", 27)", x.said(p, p, 27), WhoseDay.STATE);
        }
    }

    private static void saidRange(Check c) {
        c.says("24: RANGE");
        WhoseDay x = Check.in(THREE);
        int[][] wrong = {{-1, 0, 0}, {3, 0, 0}, {8, 0, 0}, {0, -1, 0}, {0, 3, 0}, {0, 1, -1}, {0, 1, 28}, {3, 3, 0},
            {-1, -1, 0}};
        for (int[] w : wrong) {
            c.due("said of wrong numbers", x.said(w[0], w[1], w[2]), WhoseDay.RANGE);
        }
        for (int far : Check.FAR) {
            c.due("said(far, 0, 0)", x.said(far, 0, 0), WhoseDay.RANGE);
            c.due("said(0, far, 0)", x.said(0, far, 0), WhoseDay.RANGE);
            c.due("said(0, 1, far)", x.said(0, 1, far), WhoseDay.RANGE);
        }
        c.due("said(0, 1, 0) of nothing", new WhoseDay().said(0, 1, 0), WhoseDay.RANGE);
    }

    // ---- 25

    private static void overWhom(Check c) {
        c.says("III: OVER whom it comes: the first himself, then who understood it, one behind the other, the "
            + "other one the last");
        WhoseDay x = Check.in(RING);
        for (int from = 0; from < 8; from++) {
            for (int steps = 1; steps < 8; steps++) {
                int to = (from + steps) % 8;
                for (int i = 0; i <= steps; i++) {
                    c.due("over(" + from + ", " + to + ", 0, " + i + ")", x.over(from, to, 0, i), (from + i) % 8);
                }
                c.due("over(" + from + ", " + to + ") beyond", x.over(from, to, 0, steps + 1), WhoseDay.NONE);
            }
            x = Check.in(RING);
        }
        WhoseDay y = Check.in(THREE + "dull a 0 9;dull c 10 20;");
        int[] due = {0, 2, 1, -1};
        for (int i = 0; i < due.length; i++) {
            c.due("over dull days " + i, y.over(0, 1, 0, i), due[i]);
        }
    }

    private static void overNone(Check c) {
        c.says("25: NONE: there are not so many, or it isn't SAID");
        WhoseDay x = Check.in(Check.people(4) + "person e alone;");
        c.due("over(0, 1, 27, 1)", x.over(0, 1, 27, 1), 1);
        c.due("over(0, 1, 27, 2)", x.over(0, 1, 27, 2), WhoseDay.NONE);
        c.due("over(0, 1, 27, 7)", x.over(0, 1, 27, 7), WhoseDay.NONE);
        c.due("over(0, 1, 27, 8)", x.over(0, 1, 27, 8), WhoseDay.NONE);
        c.due("over far", x.over(0, 1, 27, Integer.MAX_VALUE), WhoseDay.NONE);
        for (int i = 0; i < 3; i++) {
            c.due("into another ring " + i, x.over(0, 2, 0, i), WhoseDay.NONE);
            c.due("to one alone " + i, x.over(0, 4, 0, i), WhoseDay.NONE);
            c.due("from one alone " + i, x.over(4, 0, 0, i), WhoseDay.NONE);
        }
        WhoseDay ring = Check.in(RING);
        c.due("in these days", ring.over(0, 7, 21, 0), 0);
        c.due("the last one of eight", ring.over(0, 7, 21, 7), 7);
        c.due("a ninth one", ring.over(0, 7, 21, 8), WhoseDay.NONE);
        for (int i = 0; i < 8; i++) {
            c.due("not in these days " + i, ring.over(0, 7, 22, i), WhoseDay.NONE);
        }
    }

    private static void overState(Check c) {
        c.says("25: STATE: it is the same");
        WhoseDay x = Check.in(Check.people(2) + "person c alone;");
        for (int p = 0; p < 3; p++) {
            for (int i : new int[] {0, 1, 100}) {
                c.due("over(" + p + ", " + p + ", 0, " + i + ")", x.over(p, p, 0, i), WhoseDay.STATE);
            }
        }
    }

    private static void overRange(Check c) {
        c.says("25: RANGE (also i below 0)");
        WhoseDay x = Check.in(THREE);
        int[][] wrong = {{-1, 0, 0, 0}, {3, 0, 0, 0}, {0, -1, 0, 0}, {0, 3, 0, 0}, {0, 1, -1, 0}, {0, 1, 28, 0},
            {0, 1, 0, -1}, {0, 1, 0, Integer.MIN_VALUE}, {3, 3, 0, 0}};
        for (int[] w : wrong) {
            c.due("over of wrong numbers", x.over(w[0], w[1], w[2], w[3]), WhoseDay.RANGE);
        }
        for (int far : Check.FAR) {
            c.due("over(far, ..)", x.over(far, 0, 0, 0), WhoseDay.RANGE);
            c.due("over(0, far, ..)", x.over(0, far, 0, 0), WhoseDay.RANGE);
            c.due("over(0, 1, far, 0)", x.over(0, 1, far, 0), WhoseDay.RANGE);
        }
        c.due("i below 0, of what isn't said", Check.in(Check.people(4)).over(0, 2, 0, -1), WhoseDay.RANGE);
        c.due("over of nothing", new WhoseDay().over(0, 1, 0, 0), WhoseDay.RANGE);
    }

    // ---- 26

    private static void skillsByDay(Check c) {
        c.says("III: SKILLS: all have 0 at first. A DAY: each has as much more as its trade");
        WhoseDay x = Check.in("person a alone;person b alone;trade a 99;trade b 1;");
        for (int day = 0; day < 28; day++) {
            c.due("skill(0, " + day + ")", x.skill(0, day), 99 * (day + 1));
            c.due("skill(1, " + day + ")", x.skill(1, day), day + 1);
        }
        WhoseDay eight = Check.in(RING + "trade h 8;trade g 1;");
        c.due("the last of eight", eight.skill(7, 1), 16);
        c.due("the last but one, whom he dreams not", eight.skill(6, 1), 2);
        c.due("a, who dreams the last", eight.skill(0, 0), 2);
        WhoseDay y = Check.in(Check.people(2) + "trade a 0;");
        c.due("trade 0", y.skill(0, 27), 0);
        c.due("no trade", y.skill(1, 27), 0);
    }

    private static void skillsByNight(Check c) {
        c.says("III: in THE NIGHT each whom the one he dreams had more SKILL than he ahead of it .. gains a "
            + "quarter (cut) of what that was more");
        for (int trade : new int[] {0, 1, 3, 4, 5, 7, 8, 99}) {
            WhoseDay x = Check.in(Check.people(2) + "trade a " + trade + ";");
            c.due("a quarter of " + trade, x.skill(1, 0), trade / 4);
            c.due("who has more gains nothing", x.skill(0, 0), trade);
        }
        WhoseDay alike = Check.in(Check.people(2) + "trade a 50;trade b 50;");
        c.due("alike", alike.skill(1, 27), 1400);
        c.says("III: .. than he ahead of it (all at once)");
        // a dreams b, b dreams c, c dreams a: c has 80; b gains 20, a nothing yet
        WhoseDay ring = Check.in(THREE + "trade c 80;");
        int[][] due = {{0, 20, 80}, {5, 55, 160}};
        for (int day = 0; day < 2; day++) {
            for (int p = 0; p < 3; p++) {
                c.due("skill(" + p + ", " + day + ")", ring.skill(p, day), due[day][p]);
            }
        }
        WhoseDay turned = Check.in(THREE + "trade c 80;");
        turned.turn(1);
        c.due("by the other turning", turned.skill(0, 0), 20);
        c.due("by the other turning", turned.skill(1, 0), 0);
        c.says("III: .. if that one isn't DULL");
        WhoseDay dull = Check.in(Check.people(2) + "trade a 40;dull a 1 2;dull b 0 27;");
        int[] days = {10, 10, 10, 10 + (160 - 10) / 4};
        for (int day = 0; day < days.length; day++) {
            c.due("skill(1, " + day + ")", dull.skill(1, day), days[day]);
        }
    }

    private static void skillRange(Check c) {
        c.says("26: SKILL of a PERSON behind a DAY; RANGE");
        WhoseDay x = Check.in(THREE + "trade a 1;");
        int[][] wrong = {{-1, 0}, {3, 0}, {8, 0}, {0, -1}, {0, 28}};
        for (int[] w : wrong) {
            c.due("skill(" + w[0] + ", " + w[1] + ")", x.skill(w[0], w[1]), WhoseDay.RANGE);
        }
        for (int far : Check.FAR) {
            c.due("skill(far, 0)", x.skill(far, 0), WhoseDay.RANGE);
            c.due("skill(0, far)", x.skill(0, far), WhoseDay.RANGE);
        }
        c.due("skill(0, 0)", x.skill(0, 0), 1);
        c.due("skill(0, 27)", x.skill(0, 27), 28);
        c.due("skill(0, 0) of nothing", new WhoseDay().skill(0, 0), WhoseDay.RANGE);
    }

    // ---- 29

    private static void keptFewest(Check c) {
        c.says("III: KEPT: the fewest PEOPLE who, if they are DULL on all DAYS .., keep a FACT from a PERSON "
            + "up to a DAY (behind its NIGHT)");
        WhoseDay x = Check.in(THREE + "fact a 3;");
        int[][] due = {{2, 0, 0}, {2, 2, 0}, {2, 3, 1}, {2, 27, 1}, {1, 3, 0}, {1, 4, 1}, {0, 2, 0}};
        for (int[] d : due) {
            c.due("kept(" + d[0] + ", 0, " + d[1] + ")", x.kept(d[0], 0, d[1]), d[2]);
        }
        x.turn(1);
        c.due("by the other turning, b in night 3", x.kept(1, 0, 3), 1);
        c.due("by the other turning, c in night 4", x.kept(2, 0, 3), 0);
        c.due("from e, who dreams d",
            Check.in(Check.people(5) + "dreams e d;dreams d e;fact a 0;talk a d 1;").kept(4, 0, 27), 8);
        c.due("one of great bits, not two of less", Check.in(ROADS).kept(5, 0, 27), 16);
        // f is told by b, who dreams a, and by d, who dreams c
        c.due("two are needed", Check.in(Check.people(6) + "fact a 0;dreams b a;dreams d c;dreams f e;talk a c 1;"
            + "talk b f 1;talk d f 1;").kept(5, 0, 27), 5);
        c.says("III: KEPT: .. (besides what is told)");
        c.due("dull as told", Check.in(THREE + "fact a 3;dull a 3 9;").kept(2, 0, 9), 0);
        c.due("dull as told, a day longer", Check.in(THREE + "fact a 3;dull a 3 9;").kept(2, 0, 10), 1);
        c.due("the first and the last day", Check.in(Check.people(2) + "fact a 27;").kept(1, 0, 27), 1);
        c.due("the first day", Check.in(Check.people(2) + "fact a 0;").kept(1, 0, 0), 1);
    }

    private static void keptLeastBits(Check c) {
        c.says("III: KEPT: .. of as many the least bits");
        c.due("a or c", Check.in(THREE + "fact a 3;").kept(1, 0, 27), 1);
        c.due("b or c", Check.in(THREE + "fact c 3;").kept(0, 0, 27), 2);
        c.due("b or c, not a", Check.in(Check.people(4) + "dreams d c;dreams c b;fact b 3;").kept(3, 0, 27), 2);
        c.due("the last of eight", Check.in(RING + "fact h 3;").kept(0, 0, 3), 128);
        c.due("any of seven", Check.in(RING + "fact b 3;").kept(0, 0, 27), 2);
    }

    private static void keptNone(Check c) {
        c.says("29: NONE: nobody's being DULL keeps it");
        WhoseDay x = Check.in(THREE + "fact a 3;talk a b 3;");
        c.due("from the one who has it", x.kept(0, 0, 3), WhoseDay.NONE);
        c.due("from the one who has it, the day ahead", x.kept(0, 0, 2), 0);
        c.due("from one who is told", x.kept(1, 0, 3), WhoseDay.NONE);
        c.due("from one who is told, the day ahead", x.kept(1, 0, 2), 0);
        c.due("from all eight", Check.in(Check.people(8) + "fact a 0;").kept(0, 0, 27), WhoseDay.NONE);
    }

    private static void keptRange(Check c) {
        c.says("29: RANGE");
        WhoseDay x = Check.in(THREE + "fact a 3;");
        int[][] wrong = {{-1, 0, 0}, {3, 0, 0}, {0, -1, 0}, {0, 1, 0}, {0, 12, 0}, {0, 0, -1}, {0, 0, 28}};
        for (int[] w : wrong) {
            c.due("kept of wrong numbers", x.kept(w[0], w[1], w[2]), WhoseDay.RANGE);
        }
        for (int far : Check.FAR) {
            c.due("kept(far, 0, 0)", x.kept(far, 0, 0), WhoseDay.RANGE);
            c.due("kept(0, far, 0)", x.kept(0, far, 0), WhoseDay.RANGE);
            c.due("kept(0, 0, far)", x.kept(0, 0, far), WhoseDay.RANGE);
        }
        c.due("kept(0, 0, 0) of nothing", new WhoseDay().kept(0, 0, 0), WhoseDay.RANGE);
        c.due("kept of a town without facts", Check.in(THREE).kept(0, 0, 0), WhoseDay.RANGE);
    }
}
