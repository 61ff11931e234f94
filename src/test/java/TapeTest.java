/** Promises 1 to 3: a new object, feed, end; and that whatever reads the tape empties it. */
public final class TapeTest {
    public static void main(String[] args) {
        Check c = new Check();
        newObject(c);
        feeding(c);
        emptying(c);
        c.end("TapeTest");
    }

    private static void newObject(Check c) {
        WhoseDay x = new WhoseDay();
        for (int what = 0; what <= 4; what++) {
            c.due("told(" + what + ")", x.told(what), 0);
            c.due("count(" + what + ")", x.count(what), 0);
        }
        c.due("told(5)", x.told(5), 28);
        c.due("turnings()", x.turnings(), 1);
        c.due("wishes()", x.wishes(), 0);
        c.due("go(0)", x.go(0), WhoseDay.STATE);
        c.due("keep(0)", x.keep(0), WhoseDay.STATE);
        c.due("take(0)", x.take(0), WhoseDay.STATE);
        c.due("fault(0)", x.fault(0), 0);
        c.due("fault(1)", x.fault(1), WhoseDay.NONE);
        c.due("fit(0, 0)", x.fit(0, 0), 1);
        c.due("fit(999, 1)", x.fit(999, 1), 0);
        c.due("fit(999, 2)", x.fit(999, 2), 0);
    }

    private static void feeding(Check c) {
        WhoseDay x = new WhoseDay();
        for (int i = 1; i <= 45; i++) {
            c.due("feed " + i, x.feed(-1, 0, 1, 2, 3), 20 * i);
        }
        c.due("feed 46", x.feed(0, 0, 0, 0, 0), WhoseDay.FULL);
        c.due("count(4)", x.count(4), 900);
        c.due("end(901)", x.end(901), WhoseDay.NONE);
        c.due("end(-1)", x.end(-1), WhoseDay.NONE);
        c.due("end(MIN)", x.end(Integer.MIN_VALUE), WhoseDay.NONE);
        c.due("end(900)", x.end(900), 900);
        c.due("end(881)", x.end(881), 881);
        c.due("feed to 901", x.feed(0, 0, 0, 0, 0), WhoseDay.FULL);
        c.due("count(4)", x.count(4), 881);
        c.due("end(880)", x.end(880), 880);
        c.due("feed to 900", x.feed(0, 0, 0, 0, 0), 900);
        c.due("end(0)", x.end(0), 0);
        c.due("end(1)", x.end(1), WhoseDay.NONE);
        c.due("end(0) again", x.end(0), 0);
        // "law 1;law 2;", the highest byte of each int first
        x.feed(0x6c617720, 0x313b7965, 0x61722037, 0x3b202020, 0x20202020);
        c.due("town()", x.town(), 2);
        c.due("told(4)", x.told(4), 1);
        c.due("told(5)", x.told(5), 7);
    }

    private static void emptying(Check c) {
        WhoseDay x = new WhoseDay();
        Check.tape(x, "law 1;");
        x.town();
        c.due("count(4) behind town()", x.count(4), 0);
        Check.tape(x, "nonsense");
        x.town();
        c.due("count(4) behind a fault", x.count(4), 0);
        Check.tape(x, "nonsense");
        x.number();
        c.due("count(4) behind number()", x.count(4), 0);
        Check.tape(x, "nonsense");
        x.judge();
        c.due("count(4) behind judge()", x.count(4), 0);
        Check.tape(x, "nonsense");
        x.rings();
        c.due("count(4) behind rings()", x.count(4), 0);
        Check.tape(x, "2 2");
        x.knows(0, 0, 0);
        x.plan();
        c.due("count(4) behind others", x.count(4), 3);
        c.due("rings()", x.rings(), 3);
        c.due("rings() of nothing", x.rings(), 1);
    }
}
