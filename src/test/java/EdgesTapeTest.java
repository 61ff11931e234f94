/** Edges of the tape (term I) and of promises 1 to 3, sentence by sentence. */
public final class EdgesTapeTest {
    private static final int BLANKS = 0x20202020;

    public static void main(String[] args) {
        Check c = new Check();
        theConstants(c);
        aNewObject(c);
        bytesOfAnInt(c);
        behindTheTape(c);
        howManyItHas(c);
        atMost900(c);
        fullWhenMore(c);
        fullLeavesTheTape(c);
        firstBytesAlone(c);
        noneWhenNotSoMany(c);
        noneLeavesTheTape(c);
        readingEmpties(c);
        notReadingLeaves(c);
        the512thCall(c);
        c.end("EdgesTapeTest");
    }

    private static int blanks(WhoseDay x) {
        return x.feed(BLANKS, BLANKS, BLANKS, BLANKS, BLANKS);
    }

    private static void theConstants(Check c) {
        c.says("The constants: NONE = -1, RANGE = -2, FULL = -3, STATE = -4");
        c.due("NONE", WhoseDay.NONE, -1);
        c.due("RANGE", WhoseDay.RANGE, -2);
        c.due("FULL", WhoseDay.FULL, -3);
        c.due("STATE", WhoseDay.STATE, -4);
    }

    private static void aNewObject(Check c) {
        c.says("1: A TOWN of which nothing is told; no RUN");
        WhoseDay x = new WhoseDay();
        int[] told = {0, 0, 0, 0, 0, 28};
        for (int what = 0; what < told.length; what++) {
            c.due("told(" + what + ")", x.told(what), told[what]);
        }
        for (int what : new int[] {10, 20, 30, 50}) {
            c.due("told(" + what + ")", x.told(what), WhoseDay.NONE);
        }
        for (int what = 0; what <= 4; what++) {
            c.due("count(" + what + ")", x.count(what), 0);
        }
        c.due("turnings()", x.turnings(), 1);
        c.due("wishes()", x.wishes(), 0);
        c.due("plan()", x.plan(), 0);
        c.due("dreams(0)", x.dreams(0), WhoseDay.RANGE);
        c.due("fit(0, 0)", x.fit(0, 0), 1);
        c.due("go(0)", x.go(0), WhoseDay.STATE);
        c.due("keep(0)", x.keep(0), WhoseDay.STATE);
        for (int slot = 0; slot < 3; slot++) {
            c.due("take(" + slot + ")", x.take(slot), WhoseDay.STATE);
        }
    }

    private static void bytesOfAnInt(Check c) {
        c.says("2: Twenty bytes come behind THE TAPE, the highest of each int first");
        WhoseDay x = Check.in(Check.people(4));
        String[] rows = {"1032", "1230", "1302", "2031", "2301", "2310", "3012", "3201", "3210"};
        for (int i = 0; i < rows.length; i++) {
            int four = 0;
            for (char sign : rows[i].toCharArray()) {
                four = four << 8 | sign;
            }
            x.feed(four, -1, -1, -1, -1);
            x.end(4);
            c.due("number() of " + rows[i], x.number(), i);
        }
        // the five ints one behind the other: "law 1;deep 2;year 3;"
        x.feed(0x6c617720, 0x313b6465, 0x65702032, 0x3b796561, 0x7220333b);
        c.due("town()", x.town(), 3);
        c.due("told(4)", x.told(4), 1);
        c.due("told(5)", x.told(5), 3);
        // a byte above 127 is one byte, and no blank
        x.feed(0x6c617720, 0x313b20ff, BLANKS, BLANKS, BLANKS);
        c.due("town() with byte 255", x.town(), WhoseDay.NONE);
        c.due("fault(1)", x.fault(1), 7);
        x.feed(0x8061b120, BLANKS, BLANKS, BLANKS, BLANKS);
        c.due("town() with byte 128", x.town(), WhoseDay.NONE);
        c.due("fault(1)", x.fault(1), 0);
    }

    private static void behindTheTape(Check c) {
        c.says("2: Twenty bytes come behind THE TAPE (what is there already stays ahead)");
        WhoseDay x = new WhoseDay();
        // "law 1;year 7; .. ye" and "ar 2;"
        x.feed(0x6c617720, 0x313b2020, BLANKS, BLANKS, 0x20207965);
        x.feed(0x61722032, 0x3b202020, BLANKS, BLANKS, BLANKS);
        c.due("town()", x.town(), 2);
        c.due("told(4)", x.told(4), 1);
        c.due("told(5)", x.told(5), 2);
    }

    private static void howManyItHas(Check c) {
        c.says("2: how many it has");
        WhoseDay x = new WhoseDay();
        for (int i = 1; i <= 45; i++) {
            c.due("feed " + i, x.feed(-i, i, Integer.MIN_VALUE, Integer.MAX_VALUE, 0), 20 * i);
            c.due("count(4)", x.count(4), 20 * i);
        }
        x.end(7);
        c.due("feed behind end(7)", blanks(x), 27);
    }

    private static void atMost900(Check c) {
        c.says("I: THE TAPE has at most 900 bytes (and that many are read)");
        WhoseDay x = new WhoseDay();
        Check.tape(x, "law 3;" + " ".repeat(888) + "law 3;");
        c.due("count(4)", x.count(4), 900);
        c.due("town() of 900 bytes", x.town(), WhoseDay.NONE);
        c.due("fault(0)", x.fault(0), 3);
        c.due("fault(1)", x.fault(1), 894);
        c.due("town() of 900 blanks", Check.town(x, " ".repeat(900)), 0);
        Check.tape(x, " ".repeat(899) + "2");
        c.due("rings() of 900 bytes", x.rings(), 1);
        Check.tape(x, " ".repeat(899) + ";");
        c.due("judge() of 900 bytes", x.judge(), -1000);
        c.due("town() cut at 900 bytes", Check.town(x, " ".repeat(895) + "year1"), WhoseDay.NONE);
        c.due("fault(1) at the end", x.fault(1), 900);
    }

    private static void fullWhenMore(Check c) {
        c.says("2: FULL when there would be more than 900");
        WhoseDay x = new WhoseDay();
        for (int i = 0; i < 44; i++) {
            blanks(x);
        }
        c.due("feed to 900", blanks(x), 900);
        c.due("feed to 920", blanks(x), WhoseDay.FULL);
        x.end(881);
        c.due("feed to 901", blanks(x), WhoseDay.FULL);
        x.end(880);
        c.due("feed to 900 again", blanks(x), 900);
        x.end(899);
        c.due("feed to 919", blanks(x), WhoseDay.FULL);
    }

    private static void fullLeavesTheTape(Check c) {
        c.says("2: FULL (a refused call changes nothing)");
        WhoseDay x = new WhoseDay();
        Check.tape(x, " ".repeat(889) + "year 5;");
        c.due("feed to 916", x.feed(-1, -1, -1, -1, -1), WhoseDay.FULL);
        c.due("count(4)", x.count(4), 896);
        c.due("town()", x.town(), 1);
        c.due("told(5)", x.told(5), 5);
    }

    private static void firstBytesAlone(Check c) {
        c.says("3: THE TAPE has its first n bytes alone: n");
        WhoseDay x = new WhoseDay();
        Check.tape(x, "law 1;year 3;");
        c.due("end(13), as many as it has", x.end(13), 13);
        c.due("end(6)", x.end(6), 6);
        c.due("count(4)", x.count(4), 6);
        blanks(x);
        c.due("town()", x.town(), 1);
        c.due("told(4)", x.told(4), 1);
        c.due("told(5), cut off", x.told(5), 28);
        c.due("end(0) of an empty tape", x.end(0), 0);
        blanks(x);
        c.due("end(1)", x.end(1), 1);
        c.due("end(0)", x.end(0), 0);
        c.due("count(4)", x.count(4), 0);
    }

    private static void noneWhenNotSoMany(Check c) {
        c.says("3: NONE when it has not so many, or n is below 0");
        WhoseDay x = new WhoseDay();
        c.due("end(1) of an empty tape", x.end(1), WhoseDay.NONE);
        c.due("end(-1) of an empty tape", x.end(-1), WhoseDay.NONE);
        blanks(x);
        c.due("end(21) of 20", x.end(21), WhoseDay.NONE);
        c.due("end(20) of 20", x.end(20), 20);
        c.due("end(-1) of 20", x.end(-1), WhoseDay.NONE);
        for (int n : Check.FAR) {
            c.due("end(" + n + ")", x.end(n), WhoseDay.NONE);
        }
        x.end(5);
        c.due("end(6) behind end(5)", x.end(6), WhoseDay.NONE);
        c.due("end(20) behind end(5)", x.end(20), WhoseDay.NONE);
    }

    private static void noneLeavesTheTape(Check c) {
        c.says("3: NONE (a refused call changes nothing)");
        WhoseDay x = new WhoseDay();
        Check.tape(x, "law 9;");
        x.end(7);
        x.end(-1);
        c.due("count(4)", x.count(4), 6);
        c.due("town()", x.town(), 1);
        c.due("told(4)", x.told(4), 9);
    }

    private static void readingEmpties(Check c) {
        c.says("I: each call that reads it empties it, whatever it tells");
        WhoseDay x = Check.in(Check.people(2) + "fact a 3;");
        c.due("count(4) behind town()", x.count(4), 0);
        c.due("number()", Check.number(x, "10"), 0);
        c.due("count(4) behind number()", x.count(4), 0);
        c.due("number() of none", Check.number(x, "01"), WhoseDay.NONE);
        c.due("count(4) behind number() of none", x.count(4), 0);
        c.due("judge()", Check.judge(x, "3 0 0;"), 1);
        c.due("count(4) behind judge()", x.count(4), 0);
        c.due("judge() of a wrong one", Check.judge(x, "2 0 0;"), -1);
        c.due("count(4) behind judge() of a wrong one", x.count(4), 0);
        c.due("judge() of no book", Check.judge(x, "3 0;"), -1000);
        c.due("count(4) behind judge() of no book", x.count(4), 0);
        c.due("rings()", Check.rings(x, "2"), 1);
        c.due("count(4) behind rings()", x.count(4), 0);
        c.due("rings() of no row", Check.rings(x, "1"), WhoseDay.NONE);
        c.due("count(4) behind rings() of no row", x.count(4), 0);
        c.due("town() with a fault", Check.town(x, "x"), WhoseDay.NONE);
        c.due("count(4) behind town() with a fault", x.count(4), 0);
        c.due("rings() of what is left, none", x.rings(), 1);
        c.due("end(1)", x.end(1), WhoseDay.NONE);
    }

    private static void notReadingLeaves(Check c) {
        c.says("I: each call that reads it empties it (others don't)");
        WhoseDay x = Check.in(Check.people(3) + "fact a 3;want b 0 9;");
        Check.tape(x, "102");
        x.fault(0);
        x.told(0);
        x.turnings();
        x.turn(1);
        x.dreams(0);
        x.knows(0, 0, 0);
        x.comes(0, 0, 0, 0);
        x.all(0, 0);
        x.act(0, 0, 0, 0, 0);
        x.right(0, 0, 0);
        x.fit(0, 0);
        x.sure(0, 0);
        x.ask(0);
        x.knowers(0, 0, 0, 0);
        x.wishes();
        x.met(0);
        x.plan();
        x.said(0, 1, 0);
        x.over(0, 1, 0, 0);
        x.skill(0, 0);
        x.ring(0);
        x.marry(0, 1);
        x.kept(0, 0, 0);
        x.lot(0, 0, 0, false);
        x.lotDay(0, false);
        x.parts(4, 2);
        x.begin(1);
        x.go(40);
        x.now(0, 0);
        x.keep(0);
        x.take(0);
        x.count(0);
        c.due("count(4)", x.count(4), 3);
        Check.tape(x, "201");
        x.turn(0);
        c.due("number()", x.number(), 1);
    }

    private static void the512thCall(Check c) {
        c.says("An object is used for at most 512 calls after it has been made");
        WhoseDay x = new WhoseDay();
        for (int i = 1; i <= 45; i++) {
            x.feed(BLANKS, BLANKS, BLANKS, BLANKS, BLANKS);
        }
        x.town();
        x.begin(1);
        for (int i = 48; i <= 511; i++) {
            x.go(200);
        }
        c.due("the 512th call", x.count(3), 464 * 200);
    }
}
