/** Promises 11 to 14: knows, comes, all, judge. */
public final class KnownTest {
    public static void main(String[] args) {
        Check c = new Check();
        readme(c);
        nights(c);
        dull(c);
        naps(c);
        talks(c);
        lawAndDeep(c);
        order(c);
        ranges(c);
        books(c);
        c.end("KnownTest");
    }

    /** The example of README.md. */
    private static void readme(Check c) {
        WhoseDay x = new WhoseDay();
        x.feed(0x70657273, 0x6f6e2061, 0x3b706572, 0x736f6e20, 0x623b2066);
        x.feed(0x61637420, 0x6120333b, 0x20202020, 0x20202020, 0x20202020);
        c.due("town()", x.town(), 3);
        c.due("knows(1, 3, 7)", x.knows(1, 3, 7), 1);
        c.due("comes(1, 0, 7, 2)", x.comes(1, 0, 7, 2), 0);
    }

    private static void coming(Check c, WhoseDay x, int person, int fact, int ways, int[] due) {
        for (int what = 0; what < 3; what++) {
            c.due("comes(" + person + ", " + fact + ", " + ways + ", " + what + ")",
                x.comes(person, fact, ways, what), due[what]);
        }
    }

    private static final int[] NEVER = {-1, -1, -1};

    /** Three in a ring: a dreams b, b dreams c, c dreams a. All dream at once: a step each night. */
    private static void nights(Check c) {
        WhoseDay x = Check.in("person a;person b;person c;fact a 4;fact b 27;");
        coming(c, x, 0, 0, 7, new int[] {4, 0, -1});
        coming(c, x, 2, 0, 7, new int[] {4, 3, 0});
        coming(c, x, 1, 0, 7, new int[] {5, 3, 2});
        coming(c, x, 0, 1, 7, new int[] {27, 3, 1});
        coming(c, x, 2, 1, 7, NEVER);
        coming(c, x, 2, 0, 6, NEVER);
        coming(c, x, 2, 0, 1, new int[] {4, 3, 0});
        c.due("all(0, 7)", x.all(0, 7), 5);
        c.due("all(0, 6)", x.all(0, 6), -1);
        c.due("all(1, 7)", x.all(1, 7), -1);
        c.due("knows(0, 3, 7)", x.knows(0, 3, 7), 0);
        c.due("knows(0, 4, 0)", x.knows(0, 4, 0), 1);
        c.due("knows(2, 3, 7)", x.knows(2, 3, 7), 0);
        c.due("knows(2, 4, 7)", x.knows(2, 4, 7), 1);
        c.due("knows(0, 27, 7)", x.knows(0, 27, 7), 3);
        c.due("knows(1, 27, 7)", x.knows(1, 27, 7), 3);
        c.due("knows(2, 27, 7)", x.knows(2, 27, 7), 1);
    }

    private static void dull(Check c) {
        WhoseDay x = Check.in("person a;person b;person c;fact a 4;dull a 3 6;dull c 8 8;");
        coming(c, x, 2, 0, 7, new int[] {7, 3, 0});
        coming(c, x, 1, 0, 7, new int[] {9, 3, 2});
        WhoseDay y = Check.in("person a;person b;fact a 4;dull a 4 27;nap b 9;talk a b 20;");
        coming(c, y, 1, 0, 7, new int[] {20, 2, 0});
        coming(c, y, 1, 0, 5, NEVER);
        // who is dull himself dreams all the same
        WhoseDay z = Check.in("person a;person b;fact a 4;dull b 0 27;");
        coming(c, z, 1, 0, 7, new int[] {4, 3, 0});
    }

    private static void naps(Check c) {
        // a dreams b, b dreams c, c dreams a: naps by their numbers, each knows what the other knows then
        WhoseDay x = Check.in("person a;person b;person c;fact a 2;nap c 2;nap b 2;");
        coming(c, x, 2, 0, 7, new int[] {2, 1, 0});
        coming(c, x, 1, 0, 7, new int[] {2, 1, 2});
        coming(c, x, 1, 0, 3, new int[] {3, 3, 2});
        c.due("all(0, 4)", x.all(0, 4), 2);
        WhoseDay y = Check.in("person a;person b;person c;fact a 2;nap b 2;nap c 2;");
        coming(c, y, 1, 0, 4, NEVER);
        coming(c, y, 2, 0, 4, new int[] {2, 1, 0});
        WhoseDay z = Check.in("person a;person b;person c alone;fact a 2;nap c 3;nap b 1;");
        coming(c, z, 2, 0, 7, NEVER);
        coming(c, z, 1, 0, 4, NEVER);
    }

    private static void talks(Check c) {
        WhoseDay x = Check.in("person a;person b;person c alone;person d alone;fact a 0;fact d 3;"
            + "talk c d 3;talk a c 4;talk c d 4;");
        // day 0 is a multiple of all; talks by their numbers
        coming(c, x, 2, 0, 2, new int[] {0, 2, 0});
        coming(c, x, 3, 0, 2, new int[] {0, 2, 2});
        coming(c, x, 2, 1, 2, new int[] {3, 2, 3});
        coming(c, x, 0, 1, 2, new int[] {4, 2, 2});
        coming(c, x, 1, 1, 2, NEVER);
        coming(c, x, 1, 1, 3, new int[] {4, 3, 0});
        coming(c, x, 2, 0, 5, NEVER);
        c.due("all(0, 7)", x.all(0, 7), 0);
        c.due("all(0, 2)", x.all(0, 2), -1);
        c.due("all(1, 3)", x.all(1, 3), 4);
        WhoseDay y = Check.in("person a;person b;fact b 27;talk a b 27;talk a b 28;");
        coming(c, y, 0, 0, 2, new int[] {27, 2, 1});
        WhoseDay z = Check.in("person a;person b;fact b 1;talk a b 28;");
        coming(c, z, 0, 0, 2, NEVER);
    }

    private static void lawAndDeep(Check c) {
        WhoseDay x = Check.in("person a;person b;fact a 1;fact a 1;fact a 1;fact a 1;law 6;deep 5;nap b 2;talk a b 4;");
        // fact 0 is deep, 1 is against the law, 2 both, 3 neither
        coming(c, x, 1, 0, 7, new int[] {4, 2, 0});
        coming(c, x, 1, 1, 7, new int[] {1, 3, 0});
        coming(c, x, 1, 2, 7, NEVER);
        coming(c, x, 1, 1, 6, new int[] {2, 1, 0});
        coming(c, x, 1, 3, 2, new int[] {4, 2, 0});
        coming(c, x, 1, 0, 5, NEVER);
        coming(c, x, 0, 2, 0, new int[] {1, 0, -1});
        c.due("knows(1, 27, 7)", x.knows(1, 27, 7), 11);
        c.due("knows(1, 27, 2)", x.knows(1, 27, 2), 9);
        c.due("knows(1, 27, 4)", x.knows(1, 27, 4), 10);
    }

    /** By itself, then naps, then talks, then the night, all on one day. */
    private static void order(Check c) {
        WhoseDay x = Check.in("person a;person b;person c;person d alone;fact a 5;talk c d 5;talk b d 5;nap c 5;");
        // a dreams b, b dreams c, c dreams a
        coming(c, x, 2, 0, 7, new int[] {5, 1, 0});
        coming(c, x, 3, 0, 7, new int[] {5, 2, 2});
        coming(c, x, 1, 0, 7, new int[] {5, 2, 3});
        coming(c, x, 1, 0, 5, new int[] {5, 3, 2});
        c.due("all(0, 7)", x.all(0, 7), 5);
        // who has it by itself on a day has it so though a talk of that day would bring it
        WhoseDay y = Check.in("person a;person b;fact a 0;talk a b 1;");
        coming(c, y, 0, 0, 7, new int[] {0, 0, -1});
    }

    private static void ranges(Check c) {
        WhoseDay x = Check.in("person a;person b;fact a 4;");
        int[][] knows = {{-1, 0, 0}, {2, 0, 0}, {0, -1, 0}, {0, 28, 0}, {0, 0, -1}, {0, 0, 8},
            {Integer.MIN_VALUE, 0, 0}, {0, Integer.MAX_VALUE, 0}};
        for (int[] k : knows) {
            c.due("knows of wrong numbers", x.knows(k[0], k[1], k[2]), WhoseDay.RANGE);
        }
        int[][] comes = {{-1, 0, 0, 0}, {2, 0, 0, 0}, {0, -1, 0, 0}, {0, 1, 0, 0}, {0, 0, -1, 0}, {0, 0, 8, 0},
            {0, 0, 0, -1}, {0, 0, 0, 3}};
        for (int[] k : comes) {
            c.due("comes of wrong numbers", x.comes(k[0], k[1], k[2], k[3]), WhoseDay.RANGE);
        }
        int[][] all = {{-1, 0}, {1, 0}, {0, -1}, {0, 8}};
        for (int[] k : all) {
            c.due("all of wrong numbers", x.all(k[0], k[1]), WhoseDay.RANGE);
        }
    }

    private static void books(Check c) {
        WhoseDay x = Check.in("person a;person b;fact a 4;");
        c.due("an empty book", Check.judge(x, ""), 0);
        c.due("blanks", Check.judge(x, " \n "), 0);
        c.due("right", Check.judge(x, "4 0 0;"), 1);
        c.due("ahead of the night", Check.judge(x, "4 1 0;"), -1);
        c.due("the next day", Check.judge(x, "5 1 0;"), 1);
        c.due("days in any row", Check.judge(x, "27 1 0;5 1 0;4 0 0;5 0 0;"), 4);
        c.due("the second", Check.judge(x, "5 1 0;4 1 0;3 0 0;"), -2);
        c.due("no such person", Check.judge(x, "5 1 0;5 0 0;9 2 0;"), -3);
        c.due("no such fact", Check.judge(x, "9 0 1;"), -1);
        c.due("the greatest numbers", Check.judge(x, "27 7 11;"), -1);
        for (String wrong : new String[] {"28 0 0;", "4 8 0;", "4 0 12;", "4 0 0", "4 0;", "4 0 0 0;", ";", "a",
            "4 0 0;;", "4 0 0;x", "00004 0 0;", "4 1 0;28 0 0;", "4,0,0;", "4 0 0;4"}) {
            c.due("no book: " + wrong, Check.judge(x, wrong), -1000);
        }
        c.due("zeros ahead", Check.judge(x, "0004 0000 0000;"), 1);
        c.due("150 rows", Check.judge(x, "5 1 0;".repeat(150)), 150);
        c.due("the 150th", Check.judge(x, "5 1 0;".repeat(149) + "4 1 0;"), -150);
        // by the turning as it stands
        WhoseDay y = Check.in("person a;person b;person c;fact a 4;");
        c.due("by turning 0", Check.judge(y, "5 2 0;5 1 0;"), -2);
        y.turn(1);
        c.due("by turning 1", Check.judge(y, "5 1 0;5 2 0;"), -2);
    }
}
