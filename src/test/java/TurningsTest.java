/** Promises 7 to 10, 27 and 28: turnings, turn, dreams, number, ring, marry. */
public final class TurningsTest {
    public static void main(String[] args) {
        Check c = new Check();
        counts(c);
        rows(c);
        aloneAndTold(c);
        rings(c);
        marrying(c);
        c.end("TurningsTest");
    }

    private static void counts(Check c) {
        int[] due = {1, 0, 1, 2, 9, 44, 265, 1854, 14833};
        for (int n = 0; n <= 8; n++) {
            if (n != 1) {
                WhoseDay x = Check.in(Check.people(n));
                c.due("turnings() of " + n, x.turnings(), due[n]);
                c.due("turn of the last", x.turn(due[n] - 1), 1);
                c.due("turn beyond", x.turn(due[n]), WhoseDay.RANGE);
                c.due("turn(-1)", x.turn(-1), WhoseDay.RANGE);
                c.due("turn(MIN)", x.turn(Integer.MIN_VALUE), WhoseDay.RANGE);
                c.due("turn(MAX)", x.turn(Integer.MAX_VALUE), WhoseDay.RANGE);
            }
        }
    }

    private static void rows(Check c) {
        String[] due = {"1032", "1230", "1302", "2031", "2301", "2310", "3012", "3201", "3210"};
        WhoseDay x = Check.in(Check.people(4));
        for (int i = 0; i < due.length; i++) {
            x.turn(i);
            c.due(Check.row(x) + " is row " + i, Check.row(x).compareTo(due[i]), 0);
            c.due("number() of " + due[i], Check.number(x, due[i]), i);
        }
        x.turn(3);
        for (String wrong : new String[] {"", "103", "10320", "0123", "1102", "1034", "103o", "oooo", "1032 ",
            " 1032", "1 0 3 2", "103/", "103\u00ff", "8032", "9032", "103;"}) {
            c.due("number() of " + wrong, Check.number(x, wrong), WhoseDay.NONE);
        }
        c.due("the turning stays", x.dreams(0), 2);
        c.due("turn beyond", x.turn(9), WhoseDay.RANGE);
        c.due("the turning stays", x.dreams(0), 2);
        c.due("dreams(4)", x.dreams(4), WhoseDay.RANGE);
        c.due("dreams(-1)", x.dreams(-1), WhoseDay.RANGE);
        c.due("dreams(MIN)", x.dreams(Integer.MIN_VALUE), WhoseDay.RANGE);
        WhoseDay eight = Check.in(Check.people(8));
        for (int i = 0; i < 14833; i += 977) {
            WhoseDay y = i % 2 == 0 ? eight : Check.in(Check.people(8));
            y.turn(i);
            c.due("number() of row " + i, Check.number(Check.in(Check.people(8)), Check.row(y)), i);
        }
    }

    private static void aloneAndTold(Check c) {
        WhoseDay x = Check.in("person a;person b alone;person c;person d;person e;dreams c a;");
        // a, c, d, e dream: nine turnings of four, of which three have c dream a
        c.due("turnings()", x.turnings(), 3);
        String[] due = {"2o043", "3o042", "4o023"};
        for (int i = 0; i < 3; i++) {
            x.turn(i);
            c.due(Check.row(x) + " is row " + i, Check.row(x).compareTo(due[i]), 0);
            c.due("number() of " + due[i], Check.number(x, due[i]), i);
        }
        c.due("dreams(1)", x.dreams(1), WhoseDay.NONE);
        c.due("number() against what is told", Check.number(x, "2o340"), WhoseDay.NONE);
        c.due("number() with one alone dreaming", Check.number(x, "21043"), WhoseDay.NONE);
        c.due("number() with one alone dreamt", Check.number(x, "1o043"), WhoseDay.NONE);
        c.due("number() with one not alone", Check.number(x, "oo043"), WhoseDay.NONE);
        WhoseDay none = Check.in("person a alone;person b alone;");
        c.due("turnings() of those alone", none.turnings(), 1);
        c.due("number() of those alone", Check.number(none, "oo"), 0);
        c.due("ring(-1) of those alone", none.ring(-1), 0);
    }

    private static void rings(Check c) {
        WhoseDay x = Check.in(Check.people(8));
        String[] rows = {"10325476", "12345670", "12045673", "76543210", "12340675"};
        int[] many = {4, 1, 2, 4, 2};
        int[] ofFirst = {2, 8, 3, 2, 5};
        int[] ofLast = {2, 8, 5, 2, 3};
        for (int i = 0; i < rows.length; i++) {
            x.turn(Check.number(x, rows[i]));
            c.due("ring(-1) of " + rows[i], x.ring(-1), many[i]);
            c.due("ring(0) of " + rows[i], x.ring(0), ofFirst[i]);
            c.due("ring(7) of " + rows[i], x.ring(7), ofLast[i]);
        }
        c.due("ring(8)", x.ring(8), WhoseDay.RANGE);
        c.due("ring(-2)", x.ring(-2), WhoseDay.RANGE);
        WhoseDay y = Check.in("person a;person b;person c alone;");
        c.due("ring(2) of one alone", y.ring(2), 0);
        c.due("ring(-1)", y.ring(-1), 1);
    }

    private static void marrying(Check c) {
        WhoseDay x = Check.in(Check.people(4) + "person e alone;");
        x.turn(Check.number(x, "1032o"));
        c.due("marry(0, 2)", x.marry(0, 2), Check.number(Check.in(Check.people(4)), "3012"));
        c.due("marry(2, 0)", x.marry(2, 0), 6);
        c.due("marry(0, 1), who would dream themselves", x.marry(0, 1), WhoseDay.NONE);
        c.due("the turning stays", x.dreams(0), 1);
        c.due("marry(0, 0)", x.marry(0, 0), WhoseDay.RANGE);
        c.due("marry(0, 4)", x.marry(0, 4), WhoseDay.RANGE);
        c.due("marry(4, 0)", x.marry(4, 0), WhoseDay.RANGE);
        c.due("marry(0, 5)", x.marry(0, 5), WhoseDay.RANGE);
        c.due("marry(-1, 0)", x.marry(-1, 0), WhoseDay.RANGE);
        WhoseDay y = Check.in(Check.people(4) + "dreams a b;");
        y.turn(0);
        c.due("marry(0, 2) against what is told", y.marry(0, 2), WhoseDay.NONE);
    }
}
