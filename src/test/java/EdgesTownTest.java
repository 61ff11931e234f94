/** Edges of promises 4 to 10, 27 and 28 and of turnings (term I), sentence by sentence. */
public final class EdgesTownTest {
    private static final int[] TURNINGS = {1, 0, 1, 2, 9, 44, 265, 1854, 14833};
    private static final String[] FOUR_ROWS = {"1032", "1230", "1302", "2031", "2301", "2310", "3012", "3201", "3210"};

    public static void main(String[] args) {
        Check c = new Check();
        howManyClauses(c);
        withAFaultItStays(c);
        allBeginsAnew(c);
        nothingStays(c);
        turningsAnew(c);
        theFault(c);
        noOtherFault(c);
        toldNumbers(c);
        toldOfPeople(c);
        toldOfFacts(c);
        toldOthers(c);
        numberedAsTheyCome(c);
        howManyTurnings(c);
        turningsByRows(c);
        aloneAreLeftOut(c);
        asToldByDreams(c);
        turnRange(c);
        turnRefused(c);
        dreamsNone(c);
        dreamsRange(c);
        numberIsARow(c);
        numberIsNoTurning(c);
        rings(c);
        howManyRings(c);
        marriedNumber(c);
        marriedNone(c);
        marriedRange(c);
        c.end("EdgesTownTest");
    }

    // ---- 4 to 6

    private static void howManyClauses(Check c) {
        c.says("4: THE TAPE is a TOWN: how many clauses");
        WhoseDay x = new WhoseDay();
        c.due("town() of nothing", x.town(), 0);
        c.due("town() of one", Check.town(x, "law 1;"), 1);
        c.due("count(0)", x.count(0), 1);
        String many = Check.people(2) + "trade a 1;trade b 1;" + "nap a 0;".repeat(8) + "fact a 0;".repeat(12);
        c.due("town() of many", Check.town(x, many), 24);
        c.due("count(0)", x.count(0), 24);
        c.due("town() of nothing again", x.town(), 0);
        c.due("count(0)", x.count(0), 0);
    }

    private static void withAFaultItStays(Check c) {
        c.says("4: NONE with a FAULT (it stays)");
        String[] faulty = {"x", "law 4096;", "law 1;law 1;", "person z;", "nap z 0;", "person p;person q;fact p 0;?"};
        for (String text : faulty) {
            WhoseDay x = Check.in(Check.people(3) + "fact a 1;fact b 2;talk a b 2;nap b 3;want c 0 9;trade a 7;"
                + "dull c 5 6;law 2;deep 1;year 4;");
            x.turn(1);
            x.act(7, 1, 0, 0, 1);
            x.right(8, 0, 1);
            x.begin(3);
            x.go(6);
            x.keep(1);
            x.go(1);
            c.due("town() of " + text, Check.town(x, text), WhoseDay.NONE);
            int[] told = {3, 2, 1, 1, 2, 4};
            for (int what = 0; what < told.length; what++) {
                c.due("told(" + what + ")", x.told(what), told[what]);
            }
            int[] counts = {13, 1, 1, 7};
            for (int what = 0; what < counts.length; what++) {
                c.due("count(" + what + ")", x.count(what), counts[what]);
            }
            c.dueRow("the turning", Check.row(x), "201");
            c.due("turnings()", x.turnings(), 2);
            c.due("wishes()", x.wishes(), 1);
            c.due("skill(0, 0)", x.skill(0, 0), 7);
            c.due("deep: comes by night", x.comes(1, 0, 5, 0), WhoseDay.NONE);
            c.due("comes by talk", x.comes(1, 0, 2, 0), 2);
            c.due("said over dull days", x.said(2, 0, 5), 7);
            c.due("the latest step", x.act(7, 1, 0, 0, 1), WhoseDay.RANGE);
            c.due("the latest step", x.act(8, 1, 0, 0, 1), 1);
            c.due("take(1)", x.take(1), 6);
            c.due("take(0)", x.take(0), WhoseDay.STATE);
        }
    }

    private static void allBeginsAnew(Check c) {
        c.says("4: THE TURNING is number 0, ACTS are none (the latest STEP 0), there is no RUN, SLOTS are empty");
        String text = Check.people(3) + "fact a 1;fact b 2;year 4;";
        // the same text, another one, and none
        for (String next : new String[] {text, Check.people(4) + "fact a 1;", ""}) {
            WhoseDay x = Check.in(text);
            x.turn(1);
            x.act(999, 2, 0, 0, 0);
            x.right(999, 0, 1);
            x.begin(3);
            x.go(6);
            for (int slot = 0; slot < 3; slot++) {
                x.keep(slot);
            }
            Check.town(x, next);
            if (!next.isEmpty()) {
                c.due("dreams(0)", x.dreams(0), 1);
            }
            c.due("turnings() that fit", x.fit(999, 0), x.turnings());
            c.due("count(1)", x.count(1), 0);
            c.due("count(2)", x.count(2), 0);
            c.due("count(3)", x.count(3), 0);
            c.due("right of none", x.right(999, 0, 0), WhoseDay.RANGE);
            c.due("go(0)", x.go(0), WhoseDay.STATE);
            c.due("keep(0)", x.keep(0), WhoseDay.STATE);
            for (int slot = 0; slot < 3; slot++) {
                c.due("take(" + slot + ")", x.take(slot), WhoseDay.STATE);
            }
            if (!next.isEmpty()) {
                c.due("now(0, 0)", x.now(0, 0), WhoseDay.NONE);
                c.due("act at step 0", x.act(0, 1, 0, 0, 1), 0);
            }
        }
    }

    private static final String RICH = Check.people(3) + "person d alone;dreams a b;fact a 1;fact a 2;talk a b 2;nap b 3;"
        + "want c 0 9;hide c 0 9;trade a 7;trade b 8;dull c 5 6;law 3;deep 3;year 4;";

    private static void nothingStays(Check c) {
        c.says("4: THE TAPE is a TOWN (nothing of former ones, or of a text with a FAULT, stays)");
        // behind one, two and three others, and with faults between
        String[][] former = {{RICH}, {RICH, ""}, {"", RICH}, {RICH, RICH, RICH}, {RICH + "?"}, {"", RICH + "?"},
            {RICH, "law 1;", RICH + "law 1;"}};
        for (String[] texts : former) {
            WhoseDay x = new WhoseDay();
            for (String text : texts) {
                Check.town(x, text);
            }
            c.due("town()", Check.town(x, Check.people(4) + "fact b 0;"), 5);
            int[] told = {4, 1, 0, 0, 0, 28};
            for (int what = 0; what < told.length; what++) {
                c.due("told(" + what + ")", x.told(what), told[what]);
            }
            c.due("told(13)", x.told(13), 0);
            c.due("told(20)", x.told(20), WhoseDay.NONE);
            c.due("turnings()", x.turnings(), 9);
            c.due("wishes()", x.wishes(), 0);
            c.due("skill(0, 27)", x.skill(0, 27), 0);
            c.due("not deep", x.comes(0, 0, 1, 0), 0);
            c.due("not dull", x.said(2, 3, 5), 5);
            c.due("no talk, no nap", x.comes(0, 0, 6, 0), WhoseDay.NONE);
            c.due("trade, dreams, law, deep, year are told again", Check.town(x, RICH), 17);
        }
    }

    private static void turningsAnew(Check c) {
        c.says("4: THE TAPE is a TOWN (what is asked of all TURNINGS is asked anew)");
        WhoseDay x = new WhoseDay();
        for (int i = 0; i < 3; i++) {
            Check.town(x, Check.people(3) + "fact a 3;");
            c.due("surely behind day 3", x.knowers(0, 3, 0, 0), 1);
            c.due("lot behind day 4", x.lot(0, 4, 0, false), 3);
            c.due("the chance behind day 27", x.lot(0, 27, 1, false), 1);
            c.due("the mean day", x.lotDay(0, false), 4);
            c.due("ask(0)", x.ask(0), 1);
            c.due("ask(2)", x.ask(2), 4);
            Check.town(x, Check.people(3) + "fact c 9;");
            c.due("surely behind day 9", x.knowers(0, 9, 0, 0), 4);
            c.due("lot behind day 4", x.lot(0, 4, 0, false), 0);
            c.due("ask(0)", x.ask(0), 0);
            c.due("ask(2)", x.ask(2), 10);
            Check.town(x, Check.people(5) + "fact a 3;");
            c.due("fit(0, 0)", x.fit(0, 0), 44);
            c.due("perhaps", x.knowers(0, 3, 0, 1), 31);
            Check.town(x, "person a;person b;person c alone;person d alone;fact c 0;");
            c.due("who was dreamt is alone now", x.knows(3, 27, 7), 0);
            c.due("perhaps", x.knowers(0, 27, 0, 1), 4);
        }
    }

    private static void theFault(Check c) {
        c.says("5: Of the latest town(), what 0: its FAULT's KIND, 0 without (and ahead of any), 1: its PLACE "
            + "(NONE)");
        WhoseDay x = new WhoseDay();
        c.due("fault(0) ahead of any", x.fault(0), 0);
        c.due("fault(1) ahead of any", x.fault(1), WhoseDay.NONE);
        String[] texts = {"?", "year 0;", "law 1;law 1;", "person a;", "nap a 0;"};
        int[] places = {0, 5, 6, 9, 4};
        for (int kind = 1; kind <= 5; kind++) {
            c.due("town()", Check.town(x, texts[kind - 1]), WhoseDay.NONE);
            c.due("fault(0)", x.fault(0), kind);
            c.due("fault(1)", x.fault(1), places[kind - 1]);
            Check.number(x, "?");
            Check.judge(x, "?");
            Check.rings(x, "?");
            c.due("fault(0) behind other texts", x.fault(0), kind);
            c.due("fault(1) behind other texts", x.fault(1), places[kind - 1]);
        }
        c.due("town() without", Check.town(x, "law 1;"), 1);
        c.due("fault(0) without", x.fault(0), 0);
        c.due("fault(1) without", x.fault(1), WhoseDay.NONE);
    }

    private static void noOtherFault(Check c) {
        c.says("5: NONE for another what");
        WhoseDay x = new WhoseDay();
        Check.town(x, "year 0;");
        for (int what : new int[] {-1, -2, 2, 3}) {
            c.due("fault(" + what + ")", x.fault(what), WhoseDay.NONE);
        }
        for (int what : Check.FAR) {
            c.due("fault(" + what + ")", x.fault(what), WhoseDay.NONE);
        }
    }

    private static void toldNumbers(Check c) {
        c.says("6: What 0: PEOPLE, 1: FACTS, 2: TALKS, 3: NAPS, 4: the law, 5: the year");
        WhoseDay x = Check.in(Check.people(8) + "fact a 0;".repeat(12) + "talk a b 1;".repeat(7) + "nap a 0;".repeat(6)
            + "law 4095;year 1;");
        int[] full = {8, 12, 7, 6, 4095, 1};
        for (int what = 0; what < full.length; what++) {
            c.due("told(" + what + ")", x.told(what), full[what]);
        }
        Check.town(x, "");
        int[] empty = {0, 0, 0, 0, 0, 28};
        for (int what = 0; what < empty.length; what++) {
            c.due("told(" + what + ") of nothing", x.told(what), empty[what]);
        }
    }

    private static void toldOfPeople(Check c) {
        c.says("6: 10 + p: 1 if PERSON p is alone, else 0, 20 + p: whom it is told to dream (NONE)");
        WhoseDay x = Check.in("person a alone;" + "person b;person c;person d;person e;person f;person g;"
            + "person h alone;dreams b g;dreams g b;dreams c d;");
        int[] alone = {1, 0, 0, 0, 0, 0, 0, 1};
        int[] dreams = {-1, 6, 3, -1, -1, -1, 1, -1};
        for (int p = 0; p < 8; p++) {
            c.due("told(10 + " + p + ")", x.told(10 + p), alone[p]);
            c.due("told(20 + " + p + ")", x.told(20 + p), dreams[p]);
        }
        x.turn(1);
        c.due("told(24) is not the turning's", x.told(24), WhoseDay.NONE);
    }

    private static void toldOfFacts(Check c) {
        c.says("6: 30 + f: who comes to know FACT f, 50 + f: on which DAY");
        StringBuilder b = new StringBuilder(Check.people(8));
        for (int f = 0; f < 12; f++) {
            b.append("fact ").append("abcdefgh".charAt(7 - f % 8)).append(f == 11 ? 27 : 2 * f).append(";");
        }
        WhoseDay x = Check.in(b.toString());
        for (int f = 0; f < 12; f++) {
            c.due("told(30 + " + f + ")", x.told(30 + f), 7 - f % 8);
            c.due("told(50 + " + f + ")", x.told(50 + f), f == 11 ? 27 : 2 * f);
        }
    }

    private static void toldOthers(Check c) {
        c.says("6: NONE for others");
        // as full as can be: what is left is never anything
        WhoseDay full = Check.in(Check.people(8) + "fact a 1;".repeat(12) + "dreams a b;");
        int[][] others = {{-3, -1}, {6, 9}, {18, 19}, {28, 29}, {42, 49}, {62, 70}};
        for (int[] span : others) {
            for (int what = span[0]; what <= span[1]; what++) {
                c.due("told(" + what + ")", full.told(what), WhoseDay.NONE);
            }
        }
        for (int what : Check.FAR) {
            c.due("told(" + what + ")", full.told(what), WhoseDay.NONE);
        }
        WhoseDay few = Check.in("person a;person b;person c alone;fact a 1;");
        for (int what : new int[] {13, 17, 23, 27, 31, 41, 51, 61}) {
            c.due("told(" + what + ") of few", few.told(what), WhoseDay.NONE);
        }
        c.due("told(12) of few", few.told(12), 1);
    }

    private static void numberedAsTheyCome(Check c) {
        c.says("I: All are numbered from 0 as they come");
        WhoseDay x = Check.in("person z;fact z 5;person y alone;fact y 3;person x;fact x 4;");
        int[] who = {0, 1, 2};
        int[] days = {5, 3, 4};
        for (int f = 0; f < 3; f++) {
            c.due("told(30 + " + f + ")", x.told(30 + f), who[f]);
            c.due("told(50 + " + f + ")", x.told(50 + f), days[f]);
        }
        c.due("told(11)", x.told(11), 1);
        c.due("knows(0, 27, 0)", x.knows(0, 27, 0), 1);
        c.due("knows(2, 27, 0)", x.knows(2, 27, 0), 4);
    }

    // ---- 7 to 10

    private static void howManyTurnings(Check c) {
        c.says("7: How many TURNINGS there are");
        for (int n = 2; n <= 8; n++) {
            c.due("turnings() of " + n, Check.in(Check.people(n)).turnings(), TURNINGS[n]);
        }
        c.due("turnings() of a town of which nothing is told", new WhoseDay().turnings(), 1);
        c.due("turnings() of those alone", Check.in("person a alone;person b alone;").turnings(), 1);
        for (int n = 2; n <= 7; n++) {
            String text = "person z alone;" + Check.people(n);
            c.due("turnings() of " + n + " and one alone", Check.in(text).turnings(), TURNINGS[n]);
        }
        c.due("turnings() all told",
            Check.in(Check.people(4) + "dreams a b;dreams b c;dreams c d;dreams d a;").turnings(), 1);
        c.due("turnings() one told", Check.in(Check.people(4) + "dreams a b;").turnings(), 3);
        c.due("turnings() of 8, one told", Check.in(Check.people(8) + "dreams h a;").turnings(), 14833 / 7);
        c.due("turnings() of 3, one told", Check.in(Check.people(3) + "dreams a b;").turnings(), 1);
    }

    private static void turningsByRows(Check c) {
        c.says("I: THE TURNING is number 0 at first");
        WhoseDay x = Check.in(Check.people(4));
        c.dueRow("at first", Check.row(x), "1032");
        c.says("I: TURNINGS are numbered from 0 by rows (whom PERSON 0 dreams first ..), the least first; 8: .. 1");
        for (int i = 0; i < FOUR_ROWS.length; i++) {
            c.due("turn(" + i + ")", x.turn(i), 1);
            c.dueRow("turn(" + i + ")", Check.row(x), FOUR_ROWS[i]);
        }
        WhoseDay eight = Check.in(Check.people(8));
        c.dueRow("the first of 8", Check.row(eight), "10325476");
        eight.turn(14832);
        c.dueRow("the last of 8", Check.row(eight), "76543210");
        // a seventh of them for each whom the first may dream
        eight.turn(2118);
        c.due("the last by which 0 dreams 1", eight.dreams(0), 1);
        eight.turn(2119);
        c.due("the first by which 0 dreams 2", eight.dreams(0), 2);
    }

    private static void aloneAreLeftOut(Check c) {
        c.says("I: by rows (..; those alone are left out)");
        WhoseDay x = Check.in("person a alone;person b;person c;person d alone;person e;person f;person g alone;");
        String who = "1245";
        c.due("turnings()", x.turnings(), 9);
        for (int i = 0; i < FOUR_ROWS.length; i++) {
            StringBuilder row = new StringBuilder("o");
            for (int k = 0; k < 4; k++) {
                row.append(k == 2 ? "o" : "").append(who.charAt(FOUR_ROWS[i].charAt(k) - '0'));
            }
            row.append("o");
            x.turn(i);
            c.dueRow("turn(" + i + ")", Check.row(x), row.toString());
            c.due("number() of " + row, Check.number(x, row.toString()), i);
        }
    }

    private static void asToldByDreams(Check c) {
        c.says("I: A TURNING: .. as told by dreams");
        WhoseDay x = Check.in(Check.people(4) + "dreams c a;");
        String[] due = {"1302", "2301", "3201"};
        c.due("turnings()", x.turnings(), due.length);
        for (int i = 0; i < due.length; i++) {
            x.turn(i);
            c.dueRow("turn(" + i + ")", Check.row(x), due[i]);
        }
    }

    private static void turnRange(Check c) {
        c.says("8: RANGE");
        for (int n = 2; n <= 8; n++) {
            WhoseDay x = Check.in(Check.people(n));
            c.due("turn of the last of " + n, x.turn(TURNINGS[n] - 1), 1);
            c.due("turn beyond the last of " + n, x.turn(TURNINGS[n]), WhoseDay.RANGE);
            c.due("turn(0) of " + n, x.turn(0), 1);
            c.due("turn(-1) of " + n, x.turn(-1), WhoseDay.RANGE);
            for (int number : Check.FAR) {
                c.due("turn(" + number + ")", x.turn(number), WhoseDay.RANGE);
            }
        }
        WhoseDay none = new WhoseDay();
        c.due("turn(0) of nothing", none.turn(0), 1);
        c.due("turn(1) of nothing", none.turn(1), WhoseDay.RANGE);
        c.due("turn(-1) of nothing", none.turn(-1), WhoseDay.RANGE);
    }

    private static void turnRefused(Check c) {
        c.says("8: RANGE (a refused call changes nothing)");
        WhoseDay x = Check.in(Check.people(4));
        x.turn(4);
        x.turn(9);
        c.dueRow("behind turn(9)", Check.row(x), "2301");
        x.turn(-1);
        c.dueRow("behind turn(-1)", Check.row(x), "2301");
    }

    private static void dreamsNone(Check c) {
        c.says("9: Whom a PERSON dreams by THE TURNING (NONE: alone)");
        WhoseDay x = Check.in("person a alone;person b;person c;person d;person e;person f;person g;person h;");
        c.due("dreams(0)", x.dreams(0), WhoseDay.NONE);
        c.dueRow("the first", Check.row(x), "o2143675");
        WhoseDay last = Check.in(Check.people(7) + "person h alone;");
        c.due("dreams(7)", last.dreams(7), WhoseDay.NONE);
    }

    private static void dreamsRange(Check c) {
        c.says("9: RANGE");
        for (int n = 2; n <= 8; n += 3) {
            WhoseDay x = Check.in(Check.people(n));
            c.due("dreams(" + (n - 1) + ")", x.dreams(n - 1) >= 0 ? 1 : 0, 1);
            c.due("dreams(" + n + ")", x.dreams(n), WhoseDay.RANGE);
            c.due("dreams(-1)", x.dreams(-1), WhoseDay.RANGE);
            c.due("dreams(8)", x.dreams(8), WhoseDay.RANGE);
            for (int person : Check.FAR) {
                c.due("dreams(" + person + ")", x.dreams(person), WhoseDay.RANGE);
            }
        }
        c.due("dreams(0) of nothing", new WhoseDay().dreams(0), WhoseDay.RANGE);
    }

    private static void numberIsARow(Check c) {
        c.says("10: THE TAPE is a row of whom each dreams (a byte each PERSON: 48 and the number, 111 (o) for "
            + "one alone)");
        WhoseDay x = Check.in(Check.people(4));
        x.turn(5);
        for (int i = 0; i < FOUR_ROWS.length; i++) {
            c.due("number() of " + FOUR_ROWS[i], Check.number(x, FOUR_ROWS[i]), i);
        }
        c.dueRow("the turning stays", Check.row(x), "2310");
        WhoseDay eight = Check.in(Check.people(8));
        c.due("the first of 8", Check.number(eight, "10325476"), 0);
        c.due("the last of 8", Check.number(eight, "76543210"), 14832);
        c.due("of nothing", new WhoseDay().number(), 0);
        c.due("of those alone", Check.number(Check.in("person a alone;person b alone;"), "oo"), 0);
        WhoseDay some = Check.in("person a alone;person b;person c;person d;");
        c.due("o231", Check.number(some, "o231"), 0);
        c.due("o312", Check.number(some, "o312"), 1);
    }

    private static void numberIsNoTurning(Check c) {
        c.says("10: NONE: it is no TURNING");
        WhoseDay x = Check.in(Check.people(4));
        for (int sign = 0; sign < 256; sign++) {
            // 3 alone makes 103. a turning
            c.due("number() of 103 and byte " + sign, Check.number(x, "103" + (char) sign), sign == '2' ? 0 : -1);
        }
        for (String wrong : new String[] {"", "1", "103", "10322", "1032 ", " 1032", "103 2", "0123", "0132", "1023",
            "1010", "1132", "1033", "4032", "oooo", "o", "1032;", "1032\n"}) {
            c.due("number() of " + wrong, Check.number(x, wrong), WhoseDay.NONE);
        }
        WhoseDay some = Check.in("person a alone;person b;person c;person d;dreams b c;");
        for (String wrong : new String[] {"231", "0231", "1231", "o031", "o201", "o312", "ooo", "oooo", "o23", "o2310",
            "o23o", "O231"}) {
            c.due("number() of " + wrong, Check.number(some, wrong), WhoseDay.NONE);
        }
        c.due("number() of o231", Check.number(some, "o231"), 0);
        c.due("number() of nothing in a town of those alone", Check.in("person a alone;").number(), WhoseDay.NONE);
        c.due("number() of a sign in a town of nothing", Check.number(new WhoseDay(), "o"), WhoseDay.NONE);
        c.due("number() of 0 in a town of nothing", Check.number(new WhoseDay(), "0"), WhoseDay.NONE);
    }

    // ---- 27, 28

    private static void rings(Check c) {
        c.says("27: How many are in the ring of a PERSON by THE TURNING (0: alone); .. RANGE");
        WhoseDay x = Check.in("person a alone;person b;person c;person d;person e;person f;person g;person h;");
        Check.turn(x, "o2145673");
        int[] due = {0, 2, 2, 5, 5, 5, 5, 5};
        for (int p = 0; p < 8; p++) {
            c.due("ring(" + p + ")", x.ring(p), due[p]);
        }
        Check.turn(x, "o2345671");
        for (int p = 1; p < 8; p++) {
            c.due("ring(" + p + ") of all", x.ring(p), 7);
        }
        c.due("ring(8)", x.ring(8), WhoseDay.RANGE);
        c.due("ring(-2)", x.ring(-2), WhoseDay.RANGE);
        for (int person : Check.FAR) {
            c.due("ring(" + person + ")", x.ring(person), WhoseDay.RANGE);
        }
        WhoseDay eight = Check.in(Check.people(8));
        Check.turn(eight, "12345670");
        c.due("ring(0) of 8", eight.ring(0), 8);
        c.due("ring(7) of 8", eight.ring(7), 8);
        WhoseDay two = Check.in(Check.people(2));
        c.due("ring(1) of 2", two.ring(1), 2);
        c.due("ring(2) of 2", two.ring(2), WhoseDay.RANGE);
        c.due("ring(0) of nothing", new WhoseDay().ring(0), WhoseDay.RANGE);
    }

    private static void howManyRings(Check c) {
        c.says("27: person NONE: how many rings there are");
        c.due("ring(-1) of nothing", new WhoseDay().ring(-1), 0);
        c.due("ring(-1) of those alone", Check.in("person a alone;").ring(-1), 0);
        WhoseDay x = Check.in(Check.people(8));
        String[] rows = {"10325476", "12345670", "12045673", "12305674", "76543210", "10345672", "23456701"};
        int[] due = {4, 1, 2, 2, 4, 2, 2};
        for (int i = 0; i < rows.length; i++) {
            Check.turn(x, rows[i]);
            c.due("ring(-1) of " + rows[i], x.ring(-1), due[i]);
        }
    }

    private static void marriedNumber(Check c) {
        c.says("28: MARRIED: its number (each of both dreams whom the other dreams .., all others as by it)");
        WhoseDay x = Check.in(Check.people(4) + "person e alone;");
        Check.turn(x, "1032o");
        c.due("marry(0, 2): 3012", x.marry(0, 2), 6);
        c.due("marry(2, 0)", x.marry(2, 0), 6);
        c.due("marry(0, 3): 2031", x.marry(0, 3), 3);
        c.due("marry(1, 2): 1302", x.marry(1, 2), 2);
        c.due("marry(1, 3): 1230", x.marry(1, 3), 1);
        c.dueRow("THE TURNING stays", Check.row(x), "1032o");
        Check.turn(x, "1230o");
        c.due("a ring is parted: 3210", x.marry(0, 2), 8);
        c.due("a ring is parted: 1032", x.marry(1, 3), 0);
    }

    private static void marriedNone(Check c) {
        c.says("28: NONE: it is no TURNING");
        WhoseDay x = Check.in(Check.people(4));
        Check.turn(x, "1230");
        c.due("marry(0, 1), whom he dreams", x.marry(0, 1), WhoseDay.NONE);
        c.due("marry(1, 0), who dreams him", x.marry(1, 0), WhoseDay.NONE);
        c.due("marry(3, 0)", x.marry(3, 0), WhoseDay.NONE);
        Check.turn(x, "1032");
        c.due("marry(0, 1), who dream one another", x.marry(0, 1), WhoseDay.NONE);
        c.due("marry(3, 2), who dream one another", x.marry(3, 2), WhoseDay.NONE);
        WhoseDay told = Check.in(Check.people(4) + "dreams a b;");
        Check.turn(told, "1032");
        c.due("marry(0, 2), as told", told.marry(0, 2), WhoseDay.NONE);
        c.due("marry(3, 0), as told", told.marry(3, 0), WhoseDay.NONE);
        c.due("marry(1, 2): 1302, as told", told.marry(1, 2), 2);
        c.due("marry of two", Check.in(Check.people(2)).marry(0, 1), WhoseDay.NONE);
    }

    private static void marriedRange(Check c) {
        c.says("28: RANGE: no such, alike, or one alone");
        WhoseDay x = Check.in(Check.people(3) + "person d alone;person e alone;");
        for (int p = 0; p < 5; p++) {
            c.due("marry(" + p + ", " + p + ")", x.marry(p, p), WhoseDay.RANGE);
            for (int q : new int[] {-1, 3, 4, 5, 8, Integer.MIN_VALUE, Integer.MAX_VALUE}) {
                c.due("marry(" + p + ", " + q + ")", x.marry(p, q), WhoseDay.RANGE);
                c.due("marry(" + q + ", " + p + ")", x.marry(q, p), WhoseDay.RANGE);
            }
        }
        c.due("marry(-1, -1)", x.marry(-1, -1), WhoseDay.RANGE);
        c.due("marry(5, 5)", x.marry(5, 5), WhoseDay.RANGE);
        c.due("marry(0, 0) of nothing", new WhoseDay().marry(0, 0), WhoseDay.RANGE);
    }
}
