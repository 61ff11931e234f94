/** Promises 4 to 6: town with its faults, fault, told. */
public final class TownTest {
    private static final String TWO = "person a;person b;";

    public static void main(String[] args) {
        Check c = new Check();
        texts(c);
        syntax(c);
        ranges(c);
        twice(c);
        room(c);
        unknown(c);
        staying(c);
        anew(c);
        tellingAll(c);
        c.end("TownTest");
    }

    private static String times(int n, String text) {
        return text.repeat(n);
    }

    private static void texts(Check c) {
        c.fine("", 0);
        c.fine(" \n ", 0);
        c.fine("law 1;", 1);
        c.fine("law1;deep2;year3;", 3);
        c.fine("\nlaw\n1\n;\n", 1);
        c.fine("year 0028;", 1);
        c.fine("person alone alone;", 1);
        c.fine("person person alone;person dreams alone;fact person 0;", 3);
        c.fine("person abcdefgh;person abcdefg;", 2);
        c.fine(TWO + "talk a b28;talk a b1;nap a27;dull a 0 0;dull a 27 27;", 7);
        c.fine(TWO + "want a 11 27;hide b 0 0;trade a 99;trade b 0;", 6);
        c.fine("person a alone;nap a 0;", 2);
    }

    private static void syntax(Check c) {
        c.faulty("x", 1, 0);
        c.faulty(" persons a;", 1, 1);
        c.faulty("person", 1, 6);
        c.faulty("person  ", 1, 8);
        c.faulty("person a", 1, 8);
        c.faulty("person ;", 1, 7);
        c.faulty("person 1;", 1, 7);
        c.faulty("person a b;", 1, 9);
        c.faulty("person a 1;", 1, 9);
        c.faulty("person a alone alone;", 1, 15);
        c.faulty("person a alone", 1, 14);
        c.faulty("person abcdefghi;", 1, 7);
        c.faulty("law 00001;", 1, 4);
        c.faulty("law 1", 1, 5);
        c.faulty("law 1 ", 1, 6);
        c.faulty("law 1 2;", 1, 6);
        c.faulty("law a;", 1, 4);
        c.faulty(";", 1, 0);
        c.faulty("law 1;;", 1, 6);
        c.faulty("law 1;\t", 1, 6);
        c.faulty("Law 1;", 1, 0);
        c.faulty("lawA1;", 1, 3);
        c.faulty("law 1\u00e9;", 1, 5);
        c.faulty("law -1;", 1, 4);
        c.faulty("law 1;\u0000", 1, 6);
        c.faulty("7", 1, 0);
        c.faulty(TWO + "dreams a;", 1, 26);
        c.faulty(TWO + "fact a b;", 1, 25);
        c.faulty(TWO + "talk a 1;", 1, 25);
        c.faulty(TWO + "dull a 1;", 1, 26);
        c.faulty(TWO + "want a 1;", 1, 26);
        // the too long name of nobody: the syntax goes ahead
        c.faulty(TWO + "nap abcdefghij 1;", 1, 22);
    }

    private static void ranges(Check c) {
        c.faulty(TWO + "fact a 28;", 2, 25);
        c.faulty(TWO + "talk a b 0;", 2, 27);
        c.faulty(TWO + "talk a b 29;", 2, 27);
        c.faulty(TWO + "nap a 28;", 2, 24);
        c.faulty(TWO + "dull a 28 28;", 2, 25);
        c.faulty(TWO + "dull a 0 28;", 2, 27);
        c.faulty(TWO + "dull a 5 4;", 2, 27);
        c.faulty(TWO + "want a 12 0;", 2, 25);
        c.faulty(TWO + "want a 0 28;", 2, 27);
        c.faulty(TWO + "hide a 12 0;", 2, 25);
        c.faulty(TWO + "hide a 0 28;", 2, 27);
        c.faulty(TWO + "trade a 100;", 2, 26);
        c.faulty("law 4096;", 2, 4);
        c.faulty("deep 4096;", 2, 5);
        c.faulty("year 0;", 2, 5);
        c.faulty("year 29;", 2, 5);
        c.faulty("year 29 x", 2, 5);
        c.fine("law 4095;deep 4095;year 28;", 3);
    }

    private static void twice(Check c) {
        c.faulty("person a;person a;", 3, 16);
        c.faulty(TWO + "trade a 1;trade a 1;", 3, 34);
        c.faulty(TWO + "person c;dreams a b;dreams a c;", 3, 45);
        c.faulty(TWO + "person c;dreams a b;dreams c b;", 3, 47);
        c.faulty(TWO + "dreams a a;", 3, 27);
        c.faulty(TWO + "talk a a 1;", 3, 25);
        c.faulty("law 0;law 0;", 3, 6);
        c.faulty("deep 0;deep 0;", 3, 7);
        c.faulty("year 28;year 28;", 3, 8);
        c.faulty("law 0;law", 3, 6);
        c.fine(TWO + "trade a 0;trade b 0;dreams a b;dreams b a;", 6);
    }

    private static void room(Check c) {
        String eight = "person a;person b;person c;person d;person e;person f;person g;person h;";
        c.fine(eight, 8);
        c.faulty(eight + "person i;", 4, 72);
        c.faulty(eight + "person a;", 4, 72);
        c.faulty(eight + " person", 4, 73);
        c.fine(TWO + times(12, "fact a 0;"), 14);
        c.faulty(TWO + times(13, "fact a 0;"), 4, 18 + 12 * 9);
        c.fine(TWO + times(8, "talk a b 1;"), 10);
        c.faulty(TWO + times(9, "talk a b 1;"), 4, 18 + 8 * 11);
        c.fine(TWO + times(8, "nap a 0;"), 10);
        c.faulty(TWO + times(9, "nap a 0;"), 4, 18 + 8 * 8);
        c.fine(TWO + times(8, "dull a 0 0;"), 10);
        c.faulty(TWO + times(9, "dull a 0 0;"), 4, 18 + 8 * 11);
        c.fine(TWO + times(4, "want a 0 0;hide a 0 0;"), 10);
        c.faulty(TWO + times(8, "want a 0 0;") + "hide a 0 0;", 4, 18 + 8 * 11);
        c.faulty(TWO + times(8, "hide a 0 0;") + "want a 0 0;", 4, 18 + 8 * 11);
        c.faulty("person a;", 4, 9);
        c.faulty("person a; \n", 4, 11);
        c.faulty("person a alone;person b;", 4, 24);
        c.faulty(TWO + "person c;dreams a b;dreams b a;", 4, 49);
        c.fine(TWO + "person c alone;dreams a b;dreams b a;", 5);
        c.fine("person a alone;person b alone;", 2);
        // what is cut off goes ahead of what has no turning
        c.faulty("person a;law", 1, 12);
    }

    private static void unknown(Check c) {
        c.faulty("fact a 0;", 5, 5);
        c.faulty(TWO + "fact c 0;", 5, 23);
        c.faulty(TWO + "talk c a 1;", 5, 23);
        c.faulty(TWO + "talk a c 1;", 5, 25);
        c.faulty(TWO + "nap c 0;", 5, 22);
        c.faulty(TWO + "dull c 0 0;", 5, 23);
        c.faulty(TWO + "want c 0 0;", 5, 23);
        c.faulty(TWO + "hide c 0 0;", 5, 23);
        c.faulty(TWO + "trade c 0;", 5, 24);
        c.faulty(TWO + "dreams c a;", 5, 25);
        c.faulty(TWO + "dreams a c;", 5, 27);
        c.faulty(TWO + "person c alone;dreams c a;", 5, 40);
        c.faulty(TWO + "person c alone;dreams a c;", 5, 42);
        c.faulty("fact a 0;person a;person b;", 5, 5);
        c.faulty(TWO + "talk c c 1;", 5, 23);
        c.faulty(TWO + "fact ab 0;", 5, 23);
    }

    /** A town stays, with all that rests on it, behind a text that has a fault. */
    private static void staying(Check c) {
        WhoseDay x = Check.in(TWO + "person c;fact a 1;year 3;");
        x.turn(1);
        x.act(5, 1, 1, 0, 0);
        x.begin(1);
        x.go(2);
        x.keep(1);
        c.due("town()", Check.town(x, "person z; law 9999;"), WhoseDay.NONE);
        c.due("fault(0)", x.fault(0), 2);
        c.due("fault(1)", x.fault(1), 14);
        c.due("told(0)", x.told(0), 3);
        c.due("told(5)", x.told(5), 3);
        c.due("dreams(0)", x.dreams(0), 2);
        c.due("count(0)", x.count(0), 5);
        c.due("count(1)", x.count(1), 1);
        c.due("count(3)", x.count(3), 2);
        c.due("turnings()", x.turnings(), 2);
        c.due("act(4)", x.act(4, 1, 1, 0, 0), WhoseDay.RANGE);
        c.due("take(1)", x.take(1), 2);
        c.due("comes", x.comes(1, 0, 7, 0), 1);
        c.due("a town of no turning", Check.town(x, "person z;"), WhoseDay.NONE);
        c.due("told(0)", x.told(0), 3);
        c.due("turnings()", x.turnings(), 2);
        c.due("turn(1)", x.turn(1), 1);
    }

    private static void anew(Check c) {
        WhoseDay x = Check.in(TWO + "person c;fact a 1;trade a 5;law 1;deep 1;year 3;dull a 0 3;");
        x.turn(1);
        x.act(5, 1, 1, 0, 0);
        x.right(6, 0, 1);
        x.begin(1);
        x.go(2);
        x.keep(0);
        x.keep(2);
        c.due("town()", Check.town(x, TWO + "person c;fact b 2;"), 4);
        c.due("dreams(0)", x.dreams(0), 1);
        c.due("count(1)", x.count(1), 0);
        c.due("count(2)", x.count(2), 0);
        c.due("count(3)", x.count(3), 0);
        c.due("go(1)", x.go(1), WhoseDay.STATE);
        c.due("take(0)", x.take(0), WhoseDay.STATE);
        c.due("take(2)", x.take(2), WhoseDay.STATE);
        c.due("told(4)", x.told(4), 0);
        c.due("told(5)", x.told(5), 28);
        c.due("skill(0, 5)", x.skill(0, 5), 0);
        c.due("act(0)", x.act(0, 1, 1, 0, 0), 0);
        c.due("knows(0, 2, 7)", x.knows(0, 2, 7), 1);
        c.due("an empty town", x.town(), 0);
        c.due("told(0)", x.told(0), 0);
        c.due("turnings()", x.turnings(), 1);
    }

    private static void tellingAll(Check c) {
        WhoseDay x = Check.in(TWO + "person c alone;dreams b a;fact c 27;fact a 0;talk a c 5;nap b 3;nap b 4;"
            + "law 4095;year 9;want a 11 3;");
        int[][] due = {{0, 3}, {1, 2}, {2, 1}, {3, 2}, {4, 4095}, {5, 9}, {6, -1}, {9, -1}, {10, 0}, {11, 0},
            {12, 1}, {13, -1}, {19, -1}, {20, -1}, {21, 0}, {22, -1}, {23, -1}, {30, 2}, {31, 0}, {32, -1},
            {41, -1}, {49, -1}, {50, 27}, {51, 0}, {52, -1}, {-1, -1}, {1000, -1},
            {Integer.MAX_VALUE, -1}, {Integer.MIN_VALUE, -1}};
        for (int[] d : due) {
            c.due("told(" + d[0] + ")", x.told(d[0]), d[1]);
        }
    }
}
