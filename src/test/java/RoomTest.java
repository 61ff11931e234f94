import java.lang.management.ManagementFactory;

/** What calls make is small: all calls of a run live in one room. Counted in bytes here. */
public final class RoomTest {
    public static void main(String[] args) {
        Check c = new Check();
        com.sun.management.ThreadMXBean meter =
            (com.sun.management.ThreadMXBean) ManagementFactory.getThreadMXBean();
        long thread = Thread.currentThread().getId();
        StringBuilder b = new StringBuilder();
        for (char p = 'a'; p <= 'h'; p++) {
            b.append("person ").append(p).append(";");
        }
        for (int f = 0; f < 12; f++) {
            b.append("fact ").append((char) ('a' + f % 8)).append(" ").append(f).append(";");
        }
        b.append("want a 3 9;hide b 2 9;talk a b 3;nap c 4;dull d 2 9;");
        String text = b.toString();
        WhoseDay x = new WhoseDay();
        Check.tape(x, text);
        x.town();

        long start = meter.getThreadAllocatedBytes(thread);
        WhoseDay made = new WhoseDay();
        long bytes = meter.getThreadAllocatedBytes(thread) - start;
        c.due("a new object of " + bytes + " bytes is small", bytes < 16000 ? 1 : 0, 1);
        c.due("told(0)", made.told(0), 0);

        start = meter.getThreadAllocatedBytes(thread);
        dear(x);
        bytes = meter.getThreadAllocatedBytes(thread) - start;
        // 12 rows of longs and 2 rows of ints, one place a turning
        c.due("first dear calls of " + bytes + " bytes", bytes < 14833L * (12 * 8 + 2 * 4) + 4000 ? 1 : 0, 1);

        start = meter.getThreadAllocatedBytes(thread);
        for (int i = 0; i < 20; i++) {
            dear(x);
        }
        bytes = meter.getThreadAllocatedBytes(thread) - start;
        c.due("later dear calls of " + bytes + " bytes", bytes < 4000 ? 1 : 0, 1);
        c.end("RoomTest");
    }

    private static void dear(WhoseDay x) {
        x.ask(0);
        x.act(0, 9, 1, 0, 1);
        x.fit(0, 0);
        x.sure(0, 0);
        x.knowers(1, 9, 0, 1);
        x.lot(3, 9, 0, false);
        x.lotDay(4, true);
        x.plan();
        x.kept(2, 0, 20);
        x.judge();
        x.begin(1);
        x.go(200);
        x.keep(0);
        x.take(0);
        x.skill(0, 27);
        x.said(0, 1, 0);
        x.parts(20, 10);
        x.rings();
    }
}
