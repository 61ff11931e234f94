/** Edges of acts told (term III) and of promises 15 to 20, sentence by sentence. */
public final class EdgesActTest {
    /** By turning 0 c dreams a, b dreams c; by turning 1 b dreams a, c dreams b. */
    private static final String THREE = Check.people(3) + "fact a 3;";
    /** b dreams a by 1032, 2031, 3012: turnings 0, 3, 6. */
    private static final String FOUR = Check.people(4) + "fact a 3;";

    public static void main(String[] args) {
        Check c = new Check();
        actNumbers(c);
        actRange(c);
        actSteps(c);
        actFull(c);
        actRefused(c);
        rightHowOften(c);
        rightRange(c);
        rightFull(c);
        rightRefused(c);
        actsAheadOfTheNight(c);
        fitAsKnown(c);
        fitAsPutRight(c);
        fitNone(c);
        fitRange(c);
        sureBits(c);
        sureRange(c);
        askBest(c);
        askTies(c);
        askNone(c);
        askRange(c);
        surelyAndPerhaps(c);
        nobodyIfNoneFit(c);
        knowersRange(c);
        c.end("EdgesActTest");
    }

    // ---- 15, 16

    private static void actNumbers(Check c) {
        c.says("III: ACTS, at most 16, numbered from 0; 15: An ACT told at a STEP: its number");
        WhoseDay x = Check.in(THREE);
        for (int i = 0; i < 16; i++) {
            c.due("act " + i, x.act(0, 27, 0, 0, 1), i);
            c.due("count(1)", x.count(1), i + 1);
        }
    }

    private static void actRange(Check c) {
        c.says("15: RANGE");
        WhoseDay x = Check.in(THREE + "fact b 27;");
        int[][] wrong = {{-1, 0, 0, 0, 0}, {1000, 0, 0, 0, 0}, {0, -1, 0, 0, 0}, {0, 28, 0, 0, 0}, {0, 0, -1, 0, 0},
            {0, 0, 3, 0, 0}, {0, 0, 0, -1, 0}, {0, 0, 0, 2, 0}, {0, 0, 0, 0, -1}, {0, 0, 0, 0, 2}};
        for (int[] w : wrong) {
            c.due("act of wrong numbers", x.act(w[0], w[1], w[2], w[3], w[4]), WhoseDay.RANGE);
        }
        for (int far : Check.FAR) {
            c.due("act(far, ..)", x.act(far, 0, 0, 0, 0), WhoseDay.RANGE);
            c.due("act(0, far, ..)", x.act(0, far, 0, 0, 0), WhoseDay.RANGE);
            c.due("act(0, 0, far, ..)", x.act(0, 0, far, 0, 0), WhoseDay.RANGE);
            c.due("act(0, 0, 0, far, 0)", x.act(0, 0, 0, far, 0), WhoseDay.RANGE);
            c.due("act(0, 0, 0, 0, far)", x.act(0, 0, 0, 0, far), WhoseDay.RANGE);
        }
        c.due("the least numbers", x.act(0, 0, 0, 0, 0), 0);
        c.due("the greatest numbers", x.act(999, 27, 2, 1, 1), 1);
        c.due("act of a town without people", new WhoseDay().act(0, 0, 0, 0, 0), WhoseDay.RANGE);
        c.due("act of a town without facts", Check.in(Check.people(2)).act(0, 0, 0, 0, 0), WhoseDay.RANGE);
    }

    private static void actSteps(Check c) {
        c.says("III: told at a STEP of telling (0 .. 999, never falling)");
        WhoseDay x = Check.in(THREE);
        c.due("at 5", x.act(5, 0, 0, 0, 0), 0);
        c.due("at 5 again", x.act(5, 0, 0, 0, 0), 1);
        c.due("at 4", x.act(4, 0, 0, 0, 0), WhoseDay.RANGE);
        c.due("right at 4", x.right(4, 0, 0), WhoseDay.RANGE);
        c.due("right at 5", x.right(5, 0, 0), 1);
        c.due("right at 9", x.right(9, 0, 0), 2);
        c.due("at 8, behind right at 9", x.act(8, 0, 0, 0, 0), WhoseDay.RANGE);
        c.due("right at 8", x.right(8, 0, 0), WhoseDay.RANGE);
        c.due("at 9", x.act(9, 0, 0, 0, 0), 2);
        c.due("at 999", x.act(999, 0, 0, 0, 0), 3);
        c.due("at 998", x.act(998, 0, 0, 0, 0), WhoseDay.RANGE);
        c.due("at 1000", x.act(1000, 0, 0, 0, 0), WhoseDay.RANGE);
        c.due("at 999 again", x.act(999, 0, 0, 0, 0), 4);
    }

    private static void actFull(Check c) {
        c.says("15: FULL; III: ACTS, at most 16");
        WhoseDay x = Check.in(FOUR);
        for (int i = 0; i < 15; i++) {
            x.act(10, 3, 0, 0, 1);
        }
        c.due("the 16th", x.act(10, 4, 1, 0, 1), 15);
        c.due("the 17th", x.act(20, 4, 1, 0, 0), WhoseDay.FULL);
        c.due("the 17th again", x.act(20, 4, 1, 0, 0), WhoseDay.FULL);
        c.says("15: FULL (a refused call changes nothing)");
        c.due("count(1)", x.count(1), 16);
        c.due("fit(999, 0)", x.fit(999, 0), 3);
        c.due("right at the step ahead", x.right(10, 15, 0), 1);
        c.due("fit(999, 0) put right", x.fit(999, 0), 6);
    }

    private static void actRefused(Check c) {
        c.says("15: RANGE (a refused call changes nothing)");
        WhoseDay x = Check.in(FOUR);
        x.act(3, 4, 1, 0, 1);
        int[][] wrong = {{2, 4, 1, 0, 0}, {900, 28, 1, 0, 0}, {900, 4, 4, 0, 0}, {900, 4, 1, 1, 0}, {900, 4, 1, 0, 2}};
        for (int[] w : wrong) {
            x.act(w[0], w[1], w[2], w[3], w[4]);
        }
        c.due("count(1)", x.count(1), 1);
        c.due("fit(999, 0)", x.fit(999, 0), 3);
        c.due("the latest step", x.act(3, 4, 1, 0, 1), 1);
    }

    private static void rightHowOften(Check c) {
        c.says("16: One of these is put RIGHT at a STEP: how often it was");
        WhoseDay x = Check.in(THREE);
        x.act(0, 4, 1, 0, 1);
        x.act(0, 4, 2, 0, 1);
        x.act(0, 4, 0, 0, 1);
        int[] acts = {0, 1, 0, 0, 2, 1, 2, 0};
        int[] due = {1, 1, 2, 3, 1, 2, 2, 4};
        for (int i = 0; i < acts.length; i++) {
            c.due("right of " + acts[i], x.right(i, acts[i], i % 2), due[i]);
            c.due("count(2)", x.count(2), i + 1);
        }
        c.due("right as it is already", x.right(8, 0, 1), 5);
        c.due("count(1)", x.count(1), 3);
    }

    private static void rightRange(Check c) {
        c.says("16: RANGE");
        WhoseDay x = Check.in(THREE);
        c.due("right of none", x.right(0, 0, 0), WhoseDay.RANGE);
        x.act(0, 4, 1, 0, 1);
        x.act(0, 4, 2, 0, 1);
        int[][] wrong = {{-1, 0, 0}, {1000, 0, 0}, {0, -1, 0}, {0, 2, 0}, {0, 16, 0}, {0, 0, -1}, {0, 0, 2}};
        for (int[] w : wrong) {
            c.due("right of wrong numbers", x.right(w[0], w[1], w[2]), WhoseDay.RANGE);
        }
        for (int far : Check.FAR) {
            c.due("right(far, 0, 0)", x.right(far, 0, 0), WhoseDay.RANGE);
            c.due("right(0, far, 0)", x.right(0, far, 0), WhoseDay.RANGE);
            c.due("right(0, 0, far)", x.right(0, 0, far), WhoseDay.RANGE);
        }
        c.due("count(2)", x.count(2), 0);
        c.due("right of the last", x.right(999, 1, 1), 1);
    }

    private static void rightFull(Check c) {
        c.says("16: FULL: the 21st in all");
        WhoseDay one = Check.in(FOUR);
        one.act(0, 4, 1, 0, 1);
        for (int i = 1; i <= 20; i++) {
            c.due("right " + i + " of one", one.right(i, 0, i % 2), i);
        }
        c.due("the 21st of one", one.right(21, 0, 1), WhoseDay.FULL);
        WhoseDay many = Check.in(FOUR);
        for (int i = 0; i < 16; i++) {
            many.act(0, 27, 0, 0, 1);
        }
        for (int i = 0; i < 20; i++) {
            c.due("right " + i + " of many", many.right(1, i % 16, 1), i / 16 + 1);
        }
        c.due("the 21st of many", many.right(1, 15, 1), WhoseDay.FULL);
        c.says("16: FULL (a refused call changes nothing)");
        c.due("count(2)", one.count(2), 20);
        c.due("fit(999, 0)", one.fit(999, 0), 6);
        c.due("act at the step ahead", one.act(20, 27, 0, 0, 1), 1);
    }

    private static void rightRefused(Check c) {
        c.says("16: RANGE (a refused call changes nothing)");
        WhoseDay x = Check.in(FOUR);
        x.act(3, 4, 1, 0, 1);
        int[][] wrong = {{2, 0, 0}, {900, 1, 0}, {900, -1, 0}, {900, 0, 2}, {1000, 0, 0}};
        for (int[] w : wrong) {
            x.right(w[0], w[1], w[2]);
        }
        c.due("count(2)", x.count(2), 0);
        c.due("fit(999, 0)", x.fit(999, 0), 3);
        c.due("the latest step", x.act(3, 4, 1, 0, 1), 1);
    }

    // ---- 17, 18

    private static void actsAheadOfTheNight(Check c) {
        c.says("III: ACTS ..: on a DAY, ahead of THE NIGHT, a PERSON knew (1) or didn't know (0) a FACT");
        int[][] due = {{2, 0, 1, 0}, {2, 0, 0, 9}, {3, 0, 1, 9}, {3, 0, 0, 0}, {3, 1, 1, 0}, {3, 1, 0, 9}, {4, 1, 1, 3},
            {4, 1, 0, 6}, {5, 1, 1, 5}, {6, 1, 1, 7}, {27, 1, 1, 7}, {27, 1, 0, 2}, {0, 0, 0, 9}};
        for (int[] d : due) {
            WhoseDay x = Check.in(FOUR);
            x.act(0, d[0], d[1], 0, d[2]);
            c.due("day " + d[0] + ", person " + d[1] + ", knew " + d[2], x.fit(0, 0), d[3]);
        }
        WhoseDay last = Check.in(Check.people(3) + "fact a 27;");
        last.act(0, 27, 1, 0, 1);
        c.due("in the last night", last.fit(0, 0), 0);
        c.says("III: FIT ..: TURNINGS by which (by all WAYS) all that is known is so");
        WhoseDay talk = Check.in(THREE + "talk a b 3;");
        talk.act(0, 3, 1, 0, 1);
        c.due("by a talk", talk.fit(0, 0), 2);
        WhoseDay nap = Check.in(THREE + "nap b 3;");
        nap.act(0, 3, 1, 0, 1);
        c.due("by a nap", nap.fit(0, 0), 1);
        c.due("by a nap, the least", nap.fit(0, 1), 1);
        // two waits: for a who is dull, for a talk of a deep fact
        WhoseDay dull = Check.in(THREE + "dull a 3 9;");
        dull.act(0, 10, 1, 0, 0);
        c.due("ahead of the night behind dull days", dull.fit(0, 0), 2);
        dull.act(0, 11, 1, 0, 1);
        c.due("behind that night", dull.fit(0, 0), 1);
        WhoseDay deep = Check.in(THREE + "deep 1;talk a b 11;");
        deep.act(0, 11, 1, 0, 1);
        c.due("by a talk, late", deep.fit(0, 0), 2);
        c.says("III: FIT ..: all that is known is so (of each FACT)");
        WhoseDay facts = Check.in(Check.people(4) + "fact a 27;".repeat(10) + "fact c 3;fact a 3;");
        // b dreams a by turnings 0, 3, 6; d dreams c by 0, 2, 6
        facts.act(1, 4, 3, 10, 1);
        c.due("fact 10", facts.fit(1, 0), 3);
        c.due("fact 10, the greatest", facts.fit(1, 2), 6);
        facts.act(2, 4, 1, 11, 1);
        c.due("facts 10 and 11", facts.fit(2, 0), 2);
        c.due("facts 10 and 11, the greatest", facts.fit(2, 2), 6);
        facts.right(3, 1, 0);
        c.due("fact 10, not fact 11", facts.fit(3, 0), 1);
        c.due("fact 10, not fact 11, the least", facts.fit(3, 1), 2);
        WhoseDay atOnce = Check.in(Check.people(4) + "fact c 3;fact a 3;");
        atOnce.act(1, 4, 3, 0, 1);
        atOnce.act(1, 4, 1, 1, 0);
        c.due("two facts at once", atOnce.fit(1, 0), 1);
        c.due("two facts at once, the least", atOnce.fit(1, 1), 2);
        WhoseDay both = Check.in(FOUR);
        both.act(0, 4, 1, 0, 1);
        both.act(0, 5, 2, 0, 1);
        c.due("all of two acts", both.fit(0, 0), 1);
        both.act(0, 4, 1, 0, 0);
        c.due("one against the other", both.fit(0, 0), 0);
    }

    private static void fitAsKnown(Check c) {
        c.says("III: FIT as known at a STEP; 17: what 0: how many, 1: the least number (NONE), 2: the "
            + "greatest (NONE)");
        for (int step : new int[] {0, 1, 500, 999}) {
            WhoseDay x = Check.in(FOUR);
            x.act(step, 4, 1, 0, 1);
            c.due("fit(" + step + ", 0)", x.fit(step, 0), 3);
            c.due("fit(" + step + ", 1)", x.fit(step, 1), 0);
            c.due("fit(" + step + ", 2)", x.fit(step, 2), 6);
            c.due("fit(999, 0)", x.fit(999, 0), 3);
            if (step > 0) {
                c.due("fit(step - 1, 0)", x.fit(step - 1, 0), 9);
                c.due("fit(step - 1, 2)", x.fit(step - 1, 2), 8);
                c.due("fit(0, 0)", x.fit(0, 0), 9);
            }
        }
        WhoseDay none = new WhoseDay();
        c.due("fit(0, 0) of nothing", none.fit(0, 0), 1);
        c.due("fit(999, 1) of nothing", none.fit(999, 1), 0);
        c.due("fit(999, 2) of nothing", none.fit(999, 2), 0);
        WhoseDay eight = Check.in(Check.people(8) + "fact a 3;");
        c.due("fit(0, 0) of 8", eight.fit(0, 0), 14833);
        c.due("fit(0, 2) of 8", eight.fit(0, 2), 14832);
        eight.act(0, 4, 7, 0, 1);
        c.due("fit(0, 0) of 8, one known", eight.fit(0, 0), 2119);
        c.due("fit(0, 2) of 8, one known: 76543210", eight.fit(0, 2), 14832);
    }

    private static void fitAsPutRight(Check c) {
        c.says("III: perhaps put RIGHT later (whether)");
        WhoseDay x = Check.in(FOUR);
        x.act(5, 4, 1, 0, 1);
        x.right(7, 0, 0);
        x.right(9, 0, 1);
        x.right(9, 0, 0);
        x.right(12, 0, 1);
        int[][] due = {{4, 9}, {5, 3}, {6, 3}, {7, 6}, {8, 6}, {9, 6}, {11, 6}, {12, 3}, {13, 3}, {999, 3}};
        for (int[] d : due) {
            c.due("fit(" + d[0] + ", 0)", x.fit(d[0], 0), d[1]);
        }
        WhoseDay same = Check.in(FOUR);
        same.act(5, 4, 1, 0, 1);
        same.right(5, 0, 0);
        c.due("put right at the same step", same.fit(5, 0), 6);
        c.due("ahead of that step", same.fit(4, 0), 9);
        WhoseDay last = Check.in(FOUR);
        last.act(0, 4, 1, 0, 1);
        last.act(0, 5, 2, 0, 0);
        last.right(999, 1, 1);
        c.due("the second put right at 999", last.fit(999, 0), 1);
        c.due("ahead of 999", last.fit(998, 0), 2);
    }

    private static void fitNone(Check c) {
        c.says("17: 1: the least number (NONE), 2: the greatest (NONE)");
        WhoseDay x = Check.in(FOUR);
        x.act(4, 3, 0, 0, 0);
        c.due("fit(4, 0)", x.fit(4, 0), 0);
        c.due("fit(4, 1)", x.fit(4, 1), WhoseDay.NONE);
        c.due("fit(4, 2)", x.fit(4, 2), WhoseDay.NONE);
        c.due("fit(3, 1)", x.fit(3, 1), 0);
        c.due("fit(3, 2)", x.fit(3, 2), 8);
    }

    private static void fitRange(Check c) {
        c.says("17: RANGE");
        WhoseDay x = Check.in(FOUR);
        int[][] wrong = {{-1, 0}, {1000, 0}, {0, -1}, {0, 3}, {-1, 3}};
        for (int[] w : wrong) {
            c.due("fit(" + w[0] + ", " + w[1] + ")", x.fit(w[0], w[1]), WhoseDay.RANGE);
        }
        for (int far : Check.FAR) {
            c.due("fit(far, 0)", x.fit(far, 0), WhoseDay.RANGE);
            c.due("fit(0, far)", x.fit(0, far), WhoseDay.RANGE);
        }
        c.due("fit(999, 0)", x.fit(999, 0), 9);
    }

    private static void sureBits(Check c) {
        c.says("18: SURE of a PERSON as known at a STEP: whom it may dream, as bits (0: none FIT, or alone)");
        WhoseDay x = Check.in(Check.people(4) + "person e alone;fact a 3;");
        int[] all = {14, 13, 11, 7, 0};
        // 1032 2031 3012
        int[] then = {14, 1, 10, 6, 0};
        x.act(5, 4, 1, 0, 1);
        x.act(8, 3, 0, 0, 0);
        for (int p = 0; p < 5; p++) {
            c.due("sure(" + p + ", 4)", x.sure(p, 4), all[p]);
            c.due("sure(" + p + ", 5)", x.sure(p, 5), then[p]);
            c.due("sure(" + p + ", 7)", x.sure(p, 7), then[p]);
            c.due("sure(" + p + ", 8), none fits", x.sure(p, 8), 0);
            c.due("sure(" + p + ", 999), none fits", x.sure(p, 999), 0);
        }
        c.due("sure(0, 0) of 8", Check.in(Check.people(8)).sure(0, 0), 254);
        c.due("sure(7, 0) of 8", Check.in(Check.people(8)).sure(7, 0), 127);
        c.due("sure as told", Check.in(Check.people(4) + "dreams a d;").sure(0, 0), 8);
        c.due("sure as told of another", Check.in(Check.people(4) + "dreams a d;").sure(1, 0), 5);
    }

    private static void sureRange(Check c) {
        c.says("18: RANGE");
        WhoseDay x = Check.in(FOUR);
        int[][] wrong = {{-1, 0}, {4, 0}, {8, 0}, {0, -1}, {0, 1000}};
        for (int[] w : wrong) {
            c.due("sure(" + w[0] + ", " + w[1] + ")", x.sure(w[0], w[1]), WhoseDay.RANGE);
        }
        for (int far : Check.FAR) {
            c.due("sure(far, 0)", x.sure(far, 0), WhoseDay.RANGE);
            c.due("sure(0, far)", x.sure(0, far), WhoseDay.RANGE);
        }
        c.due("sure(0, 0) of nothing", new WhoseDay().sure(0, 0), WhoseDay.RANGE);
    }

    // ---- 19

    private static void asks(Check c, String call, WhoseDay x, int person, int fact, int day) {
        c.due("ask(0) " + call, x.ask(0), person);
        c.due("ask(1) " + call, x.ask(1), fact);
        c.due("ask(2) " + call, x.ask(2), day);
    }

    private static void askBest(Check c) {
        c.says("III: ASK next: .. of all that FIT (all that is known) the greater number with one answer is least");
        WhoseDay x = Check.in(FOUR);
        // b knows on day 4 by 3 of 9, on day 5 by 5, on day 6 by 7
        asks(c, "of nine", x, 1, 0, 5);
        x.turn(3);
        asks(c, "by another turning", x, 1, 0, 5);
        x.act(999, 4, 1, 0, 1);
        asks(c, "of three", x, 2, 0, 5);
        x.right(999, 0, 0);
        // 1230 1302 2301 2310 3201 3210: b knows on day 5 by 2310 3201, on day 6 by four of them;
        // c on day 4 by 1302 2301 3201
        asks(c, "of six", x, 2, 0, 4);
        c.says("III: ASK (ahead of THE NIGHT, as ACTS are)");
        asks(c, "of the last night", Check.in(Check.people(3) + "fact a 27;"), -1, -1, -1);
        asks(c, "of the night ahead of it", Check.in(Check.people(3) + "fact a 26;"), 1, 0, 27);
        asks(c, "by a nap of the day", Check.in(Check.people(3) + "fact a 27;nap b 27;"), 1, 0, 27);
    }

    private static void askTies(Check c) {
        c.says("III: ASK next: .. the least PERSON, then FACT, then DAY");
        asks(c, "of b and c", Check.in(THREE), 1, 0, 4);
        // c has it: b dreams c by turning 0, a by turning 1
        asks(c, "of a and b", Check.in(Check.people(3) + "fact c 3;"), 0, 0, 4);
        asks(c, "the least person goes ahead of the least fact", Check.in(Check.people(3) + "fact a 3;fact c 9;"), 0, 1, 10);
        asks(c, "the least fact goes ahead of the least day", Check.in(Check.people(3) + "fact a 20;fact a 3;"), 1, 0, 21);
        asks(c, "a fact that parts nothing", Check.in(Check.people(3) + "fact a 27;fact a 3;"), 1, 1, 4);
        // by turning 0 b has it behind day 7, as c is dull; by turning 1 behind day 3: days 4 to 7 alike
        asks(c, "the least day", Check.in(THREE + "dull c 4 6;"), 1, 0, 4);
        asks(c, "the twelfth fact", Check.in(Check.people(3) + "fact a 27;".repeat(11) + "fact a 5;"), 1, 11, 6);
        asks(c, "day 1", Check.in(Check.people(3) + "fact a 0;"), 1, 0, 1);
        asks(c, "day 0", Check.in(Check.people(3) + "fact a 0;nap b 0;"), 1, 0, 0);
    }

    private static void askNone(Check c) {
        c.says("III: none if none parts them; 19: NONE");
        asks(c, "of one turning", Check.in(Check.people(2) + "fact a 3;"), -1, -1, -1);
        asks(c, "without facts", Check.in(Check.people(4)), -1, -1, -1);
        asks(c, "of nothing", new WhoseDay(), -1, -1, -1);
        asks(c, "of a deep fact", Check.in(THREE + "deep 1;"), -1, -1, -1);
        asks(c, "of one alone", Check.in(Check.people(3) + "person d alone;fact d 3;"), -1, -1, -1);
        WhoseDay x = Check.in(FOUR);
        x.act(0, 3, 0, 0, 0);
        asks(c, "when none fits", x, -1, -1, -1);
        WhoseDay y = Check.in(THREE);
        asks(c, "of two", y, 1, 0, 4);
        y.act(999, 4, 1, 0, 1);
        asks(c, "of the one that is left", y, -1, -1, -1);
        // c, d and e are a ring in two ways, into which the fact never comes
        WhoseDay z = Check.in(Check.people(5) + "fact a 3;dreams a b;dreams b a;");
        c.due("fit(0, 0)", z.fit(0, 0), 2);
        asks(c, "of two that nothing parts", z, -1, -1, -1);
    }

    private static void askRange(Check c) {
        c.says("19: RANGE");
        WhoseDay x = Check.in(FOUR);
        for (int what : new int[] {-1, 3}) {
            c.due("ask(" + what + ")", x.ask(what), WhoseDay.RANGE);
            c.due("ask(" + what + ") of nothing", new WhoseDay().ask(what), WhoseDay.RANGE);
        }
        for (int far : Check.FAR) {
            c.due("ask(" + far + ")", x.ask(far), WhoseDay.RANGE);
        }
    }

    // ---- 20

    private static void surelyAndPerhaps(Check c) {
        c.says("III: SURELY: who knows a FACT behind a DAY (its NIGHT) by all TURNINGS that FIT; PERHAPS: by "
            + "one of them at least");
        WhoseDay x = Check.in(FOUR);
        int[][] due = {{0, 0, 0}, {2, 0, 0}, {3, 1, 15}, {4, 1, 15}, {27, 1, 15}};
        for (int[] d : due) {
            c.due("surely behind " + d[0], x.knowers(0, d[0], 0, 0), d[1]);
            c.due("perhaps behind " + d[0], x.knowers(0, d[0], 0, 1), d[2]);
        }
        c.due("perhaps by the first of two", Check.in(THREE).knowers(0, 3, 0, 1), 7);
        c.due("surely by both", Check.in(THREE).knowers(0, 4, 0, 0), 7);
        x.act(5, 4, 1, 0, 1);
        // 1032 2031 3012: b in night 3, then nobody, d, c
        int[][] then = {{3, 3, 3}, {4, 3, 15}, {5, 3, 15}, {27, 3, 15}};
        for (int[] d : then) {
            c.due("surely then behind " + d[0], x.knowers(0, d[0], 5, 0), d[1]);
            c.due("perhaps then behind " + d[0], x.knowers(0, d[0], 5, 1), d[2]);
        }
        // c dreams a by 1302, 2301, 3201
        WhoseDay y = Check.in(FOUR);
        c.due("surely at first", y.knowers(0, 3, 0, 0), 1);
        y.act(5, 4, 2, 0, 1);
        c.due("surely by those alone that fit", y.knowers(0, 3, 5, 0), 5);
        c.due("perhaps by those alone that fit", y.knowers(0, 3, 5, 1), 5);
        c.due("surely as known at 4", x.knowers(0, 3, 4, 0), 1);
        c.due("perhaps as known at 4", x.knowers(0, 3, 4, 1), 15);
        WhoseDay two = Check.in(Check.people(2) + "fact a 0;fact a 27;");
        c.due("surely behind the first night", two.knowers(0, 0, 0, 0), 3);
        c.due("surely ahead of the last night", two.knowers(1, 26, 0, 0), 0);
        c.due("surely behind the last night", two.knowers(1, 27, 0, 0), 3);
        c.due("all eight", Check.in(Check.people(8) + "fact a 0;").knowers(0, 0, 0, 1), 255);
        WhoseDay more = Check.in(THREE + "fact c 9;");
        c.due("another fact", more.knowers(1, 9, 0, 0), 4);
        c.due("another fact, perhaps", more.knowers(1, 9, 0, 1), 7);
        c.due("those alone", Check.in("person a alone;person b alone;fact b 4;").knowers(0, 4, 0, 0), 2);
    }

    private static void nobodyIfNoneFit(Check c) {
        c.says("III: (nobody, if none FIT)");
        WhoseDay x = Check.in(FOUR);
        x.act(5, 3, 0, 0, 0);
        for (int day : new int[] {0, 3, 27}) {
            c.due("surely", x.knowers(0, day, 5, 0), 0);
            c.due("perhaps", x.knowers(0, day, 5, 1), 0);
        }
        c.due("surely, as known ahead", x.knowers(0, 3, 4, 0), 1);
    }

    private static void knowersRange(Check c) {
        c.says("20: RANGE");
        WhoseDay x = Check.in(FOUR);
        int[][] wrong = {{-1, 0, 0, 0}, {1, 0, 0, 0}, {0, -1, 0, 0}, {0, 28, 0, 0}, {0, 0, -1, 0}, {0, 0, 1000, 0},
            {0, 0, 0, -1}, {0, 0, 0, 2}};
        for (int[] w : wrong) {
            c.due("knowers of wrong numbers", x.knowers(w[0], w[1], w[2], w[3]), WhoseDay.RANGE);
        }
        for (int far : Check.FAR) {
            c.due("knowers(far, ..)", x.knowers(far, 0, 0, 0), WhoseDay.RANGE);
            c.due("knowers(0, far, ..)", x.knowers(0, far, 0, 0), WhoseDay.RANGE);
            c.due("knowers(0, 0, far, 0)", x.knowers(0, 0, far, 0), WhoseDay.RANGE);
            c.due("knowers(0, 0, 0, far)", x.knowers(0, 0, 0, far), WhoseDay.RANGE);
        }
        c.due("knowers(0, 27, 999, 1)", x.knowers(0, 27, 999, 1), 15);
        c.due("knowers of nothing", new WhoseDay().knowers(0, 0, 0, 0), WhoseDay.RANGE);
    }
}
