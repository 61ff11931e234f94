import java.util.Arrays;

/** Edges of towns as texts and of their faults (term I), sentence by sentence. */
public final class EdgesTextTest {
    private static final int SYNTAX = 1;
    private static final int RANGE = 2;
    private static final int TWICE = 3;
    private static final int ROOM = 4;
    private static final int UNKNOWN = 5;
    private static final String TWO = "person a;person b;";
    /** Each kind of clause, its tokens apart; w is a person's name, n a number. */
    private static final String[] SHAPES = {"person w ;", "person w alone ;", "dreams w w ;", "fact w n ;",
        "talk w w n ;", "nap w n ;", "dull w n n ;", "want w n n ;", "hide w n n ;", "trade w n ;", "law n ;",
        "deep n ;", "year n ;"};

    public static void main(String[] args) {
        Check c = new Check();
        blanks(c);
        signsOfWords(c);
        signsOfNumbers(c);
        lengthsOfWords(c);
        lengthsOfNumbers(c);
        theText(c);
        theClauses(c);
        wrongTokens(c);
        cutTexts(c);
        bounds(c);
        defaults(c);
        twice(c);
        room(c);
        roomAtTheEnd(c);
        unknown(c);
        alone(c);
        firstComeTo(c);
        leastKind(c);
        places(c);
        c.end("EdgesTextTest");
    }

    private static boolean isBlank(int sign) {
        return sign == 32 || sign == 10;
    }

    private static boolean isLetter(int sign) {
        return sign >= 97 && sign <= 122;
    }

    private static boolean isDigit(int sign) {
        return sign >= 48 && sign <= 57;
    }

    private static void blanks(Check c) {
        c.says("I: TOKENS with any blanks (32, 10) between");
        for (int sign = 0; sign < 256; sign++) {
            String text = "law 1" + (char) sign + "; ";
            if (isBlank(sign) || isDigit(sign)) {
                c.fine(text, 1);
            } else {
                c.faulty(text, SYNTAX, sign == ';' ? 6 : 5);
            }
            String ahead = (char) sign + "law 1;";
            if (isBlank(sign)) {
                c.fine(ahead, 1);
            } else {
                c.faulty(ahead, SYNTAX, 0);
            }
        }
        c.fine("law1;deep2;year3;person a;person b;dreams a b;talk a b1;nap a1;dull a0 0;want b0 0;", 10);
        c.fine("\n \n law \n\n 1   ; \n year\n2\n;\n\n", 2);
        c.fine("", 0);
        c.fine(" ", 0);
        c.fine("\n", 0);
    }

    private static void signsOfWords(Check c) {
        c.says("I: WORDS (small letters, as many as there are)");
        for (int sign = 0; sign < 256; sign++) {
            String text = "person x" + (char) sign + " alone;";
            if (isBlank(sign) || isLetter(sign)) {
                c.fine(text, 1);
            } else {
                c.faulty(text, SYNTAX, sign == ';' ? 10 : 8);
            }
        }
        c.says("I: WORDS .. as many as there are (one name is not the beginning of another)");
        c.fine("person a alone;person aa alone;person ab alone;person b alone;person ba alone;", 5);
        c.faulty("person ab alone;fact a 0;", UNKNOWN, 21);
        c.faulty("person a alone;fact ab 0;", UNKNOWN, 20);
        c.faulty("personx alone;", SYNTAX, 0);
    }

    private static void signsOfNumbers(Check c) {
        c.says("I: N (digits, as many as there are)");
        for (int sign = 0; sign < 256; sign++) {
            String text = "year " + (char) sign + ";";
            if (sign >= '1' && sign <= '9') {
                c.fine(text, 1);
            } else {
                boolean isNothing = isBlank(sign) || sign == ';';
                c.faulty(text, sign == '0' ? RANGE : SYNTAX, isNothing && sign != ';' ? 6 : 5);
            }
        }
        WhoseDay x = Check.in("law 1023;");
        c.due("told(4)", x.told(4), 1023);
        c.due("town() with zeros ahead", Check.town(x, "law 0987;"), 1);
        c.due("told(4)", x.told(4), 987);
    }

    private static void lengthsOfWords(Check c) {
        c.says("I: WORDS (.. 8 at most); 1 SYNTAX: .. a run that is too long");
        for (int n = 1; n <= 8; n++) {
            c.fine("person " + "z".repeat(n) + " alone;", 1);
        }
        for (int n = 9; n <= 20; n++) {
            c.faulty("person " + "z".repeat(n) + " alone;", SYNTAX, 7);
        }
        c.faulty("person abcdefgh alone;nap abcdefghi 0;", SYNTAX, 26);
        c.faulty("personabcd;", SYNTAX, 0);
        c.faulty("person a alonealone;", SYNTAX, 9);
        c.says("I: PEOPLE's names are unlike (to the last letter of 8)");
        c.fine("person abcdefgh alone;person abcdefgi alone;person bbcdefgh alone;", 3);
        c.fine("person zzzzzzzz alone;person zzzzzzz alone;person azzzzzzz alone;", 3);
        c.faulty("person zzzzzzzz alone;person zzzzzzzz alone;", TWICE, 29);
    }

    private static void lengthsOfNumbers(Check c) {
        c.says("I: N (.. 4 at most); 1 SYNTAX: .. a run that is too long");
        c.fine("year 1;", 1);
        c.fine("year 01;", 1);
        c.fine("year 001;", 1);
        c.fine("year 0001;", 1);
        c.faulty("year 00001;", SYNTAX, 5);
        c.faulty("law 99999;", SYNTAX, 4);
        c.faulty("law 9999;", RANGE, 4);
        // numbers that would be within bounds if they wrapped around
        c.faulty("law 4294967297;", SYNTAX, 4);
        c.faulty("law 18446744073709551617;", SYNTAX, 4);
        c.faulty(TWO + "dull a 1 00002;", SYNTAX, 27);
    }

    private static void theText(Check c) {
        c.says("I: A TOWN is a text = {clause \";\"}");
        c.fine("", 0);
        c.fine("law 0;", 1);
        c.fine("law 0;year 1;", 2);
        c.faulty(";", SYNTAX, 0);
        c.faulty("law 0;;", SYNTAX, 6);
        c.faulty("law 0;;year 1;", SYNTAX, 6);
        c.faulty("law 0", SYNTAX, 5);
        c.faulty("law 0 year 1;", SYNTAX, 6);
        c.faulty("law 0,", SYNTAX, 5);
        c.faulty("law 0:", SYNTAX, 5);
    }

    /** A text with the shape's clause, and where each of its tokens begins. */
    private static String[] tokensOf(String shape) {
        String[] tokens = shape.split(" ");
        boolean isFirst = true;
        for (int i = 1; i < tokens.length; i++) {
            if (tokens[i].equals("w")) {
                tokens[i] = shape.startsWith("person") ? "c" : isFirst ? "a" : "b";
                isFirst = false;
            } else if (tokens[i].equals("n")) {
                tokens[i] = "1";
            }
        }
        return tokens;
    }

    private static void theClauses(Check c) {
        c.says("I: clause = \"person\" W [\"alone\"] | \"dreams\" W W | \"fact\" W N | \"talk\" W W N | ..");
        for (String shape : SHAPES) {
            String[] tokens = tokensOf(shape);
            c.fine(TWO + String.join(" ", tokens), 3);
            c.fine(TWO + String.join("\n", tokens) + "\n", 3);
        }
        // words of the clauses may be names
        c.fine("person alone alone;person law alone;nap law 0;fact alone 3;", 4);
        c.fine("person alone;person person;dreams person alone;", 3);
    }

    private static boolean fits(String wanted, String token) {
        switch (wanted) {
            case "w": return isLetter(token.charAt(0)) && token.length() <= 8;
            case "n": return isDigit(token.charAt(0)) && token.length() <= 4;
            default: return wanted.equals(token);
        }
    }

    /** Tokens with which a text goes on though the shape has another one there. */
    private static boolean mayStand(String shape, int k, String token) {
        boolean isPerson = shape.startsWith("person");
        return k == 0 && token.equals("person") || isPerson && k == 2 && (token.equals("alone") || token.equals(";"));
    }

    private static void wrongTokens(Check c) {
        c.says("I: 1 SYNTAX: a TOKEN (or byte that is none, a run that is too long) with which no text goes on");
        String[] others = {"1", ";", "x", "alone", "person", "A", "-1", "+1", ".", "_", "abcdefghi", "12345"};
        for (String shape : SHAPES) {
            String[] wanted = shape.split(" ");
            for (int k = 0; k < wanted.length; k++) {
                for (String other : others) {
                    if (!fits(wanted[k], other) && !mayStand(shape, k, other)) {
                        String[] tokens = tokensOf(shape);
                        tokens[k] = other;
                        String ahead = TWO + String.join(" ", Arrays.copyOf(tokens, k)) + (k > 0 ? " " : "");
                        c.faulty(TWO + String.join(" ", tokens), SYNTAX, ahead.length());
                    }
                }
            }
        }
        for (String other : new String[] {"qlone", "aqone", "alqne", "aloqe", "alonq", "alon", "alonee", "lone"}) {
            c.faulty(TWO + "person c " + other + ";", SYNTAX, 27);
        }
        for (String shape : SHAPES) {
            String word = shape.substring(0, shape.indexOf(' '));
            c.faulty(word.substring(0, word.length() - 1), SYNTAX, 0);
            c.faulty(word + "s", SYNTAX, 0);
            c.faulty(word.substring(1), SYNTAX, 0);
            for (int i = 0; i < word.length(); i++) {
                c.faulty(word.substring(0, i) + "q" + word.substring(i + 1) + shape.substring(word.length()), SYNTAX, 0);
            }
        }
    }

    private static void cutTexts(Check c) {
        c.says("I: PLACE (a TOKEN's first byte; the text's length at its end)");
        for (String shape : SHAPES) {
            String[] tokens = tokensOf(shape);
            for (int k = 1; k < tokens.length; k++) {
                String text = TWO + String.join(" ", Arrays.copyOf(tokens, k));
                c.faulty(text, SYNTAX, text.length());
                c.faulty(text + " \n ", SYNTAX, text.length() + 3);
            }
        }
    }

    private static void bounds(Check c) {
        c.says("I: 2 RANGE: an N out of its bounds");
        bound(c, "fact a ", ";", 0, 27);
        bound(c, "talk a b ", ";", 1, 28);
        bound(c, "nap a ", ";", 0, 27);
        bound(c, "dull a ", " 27;", 0, 27);
        bound(c, "dull a 0 ", ";", 0, 27);
        bound(c, "dull a 9 ", ";", 9, 27);
        bound(c, "dull a 27 ", ";", 27, 27);
        bound(c, "want a ", " 0;", 0, 11);
        bound(c, "want a 0 ", ";", 0, 27);
        bound(c, "hide a ", " 0;", 0, 11);
        bound(c, "hide a 0 ", ";", 0, 27);
        bound(c, "trade a ", ";", 0, 99);
        bound(c, "law ", ";", 0, 4095);
        bound(c, "deep ", ";", 0, 4095);
        bound(c, "year ", ";", 1, 28);
    }

    private static void bound(Check c, String ahead, String behind, int low, int high) {
        c.fine(TWO + ahead + low + behind, 3);
        c.fine(TWO + ahead + high + behind, 3);
        int place = TWO.length() + ahead.length();
        if (low > 0) {
            c.faulty(TWO + ahead + (low - 1) + behind, RANGE, place);
            c.faulty(TWO + ahead + 0 + behind, RANGE, place);
        }
        c.faulty(TWO + ahead + (high + 1) + behind, RANGE, place);
        c.faulty(TWO + ahead + 9999 + behind, RANGE, place);
    }

    private static void defaults(Check c) {
        c.says("I: trade .. 0 .. 99 (0)");
        c.due("skill(0, 27)", Check.in(TWO).skill(0, 27), 0);
        c.due("skill(0, 0) of trade 99", Check.in(TWO + "trade a 99;").skill(0, 0), 99);
        c.says("I: law .. 0 .. 4095 (0)");
        WhoseDay x = Check.in(TWO + "fact a 0;talk a b 1;");
        c.due("told(4)", x.told(4), 0);
        c.due("comes by talks", x.comes(1, 0, 2, 0), 0);
        c.says("I: deep .. likewise (0)");
        c.due("comes by nights", x.comes(1, 0, 1, 0), 0);
        c.says("I: year .. 1 .. 28 (28)");
        c.due("told(5)", x.told(5), 28);
        c.says("I: law, deep: by their numbers as bits 0 .. 4095 (the 12th FACT, too)");
        String twelve = TWO + "fact a 0;".repeat(12) + "talk a b 1;";
        c.due("knows by talks", Check.in(twelve + "law 2048;").knows(1, 27, 2), 2047);
        c.due("knows by talks, all against the law", Check.in(twelve + "law 4095;").knows(1, 27, 2), 0);
        c.due("knows by nights, deep", Check.in(twelve + "deep 2048;").knows(1, 27, 1), 2047);
        c.due("knows by nights, all deep", Check.in(twelve + "deep 4095;").knows(1, 27, 5), 0);
    }

    private static void twice(Check c) {
        c.says("I: 3 TWICE: a PERSON's name that one has");
        c.faulty("person a;person a;", TWICE, 16);
        c.faulty("person a alone;person a;", TWICE, 22);
        c.faulty("person a;person b;person a alone;", TWICE, 25);
        c.says("I: 3 TWICE: the name of a trade that was told");
        c.faulty(TWO + "trade a 1;trade a 2;", TWICE, 34);
        c.faulty(TWO + "trade a 0;trade b 0;trade a 0;", TWICE, 44);
        c.fine(TWO + "trade b 1;trade a 1;", 4);
        c.says("I: 3 TWICE: the first name of a dreams that dreams already");
        c.faulty(Check.people(3) + "dreams a b;dreams a c;", TWICE, 45);
        c.faulty(Check.people(3) + "dreams a b;dreams a b;", TWICE, 45);
        c.faulty(Check.people(4) + "dreams a b;dreams b c;dreams a d;", TWICE, 65);
        c.fine(Check.people(3) + "dreams a b;dreams b c;", 5);
        c.says("I: 3 TWICE: the second one that is the first");
        c.faulty(TWO + "dreams b b;", TWICE, 27);
        c.says("I: 3 TWICE: the second one that .. is dreamt already");
        c.faulty(Check.people(3) + "dreams a b;dreams c b;", TWICE, 47);
        c.faulty(Check.people(4) + "dreams a b;dreams b c;dreams d b;", TWICE, 67);
        c.fine(Check.people(4) + "dreams a b;dreams b a;", 6);
        c.says("I: 3 TWICE: the second name of a talk that is its first");
        c.faulty(TWO + "talk a a 1;", TWICE, 25);
        c.faulty(TWO + "talk b b 1;", TWICE, 25);
        c.fine(TWO + "talk a b 1;talk a b 1;talk b a 1;", 5);
        c.says("I: 3 TWICE: law, deep, year again");
        c.faulty("law 0;law 0;", TWICE, 6);
        c.faulty("deep 0;deep 0;", TWICE, 7);
        c.faulty("year 28;year 28;", TWICE, 8);
        c.faulty("law 1;deep 1;year 1;law 1;", TWICE, 20);
        c.faulty("law 1;deep 1;year 1;deep 1;", TWICE, 20);
        c.faulty("law 1;deep 1;year 1;year 1;", TWICE, 20);
        c.fine("year 1;deep 1;law 1;", 3);
    }

    private static void tooMany(Check c, String what, int most, String clause) {
        c.says("I: 4 ROOM: a " + what + " too many, at its first WORD; at most " + most);
        String full = TWO + clause.repeat(most);
        c.fine(full, 2 + most);
        c.faulty(full + clause, ROOM, full.length());
        c.faulty(full + "\n " + clause.repeat(2), ROOM, full.length() + 2);
        // the first word alone tells it, whatever comes behind it
        c.faulty(full + clause.substring(0, clause.indexOf(' ')), ROOM, full.length());
        c.fine(full + "law 1;", 3 + most);
    }

    private static void room(Check c) {
        c.says("I: 4 ROOM: a PERSON too many, at its first WORD; at most 8 PEOPLE");
        c.fine(Check.people(8), 8);
        c.faulty(Check.people(9), ROOM, 72);
        c.faulty(Check.people(8) + "person a;", ROOM, 72);
        c.faulty(Check.people(8) + "person i alone;", ROOM, 72);
        c.faulty(Check.people(8) + " person", ROOM, 73);
        c.fine(Check.people(7) + "person h alone;", 8);
        tooMany(c, "FACT", 12, "fact a 0;");
        tooMany(c, "TALK", 8, "talk a b 1;");
        tooMany(c, "NAP", 8, "nap a 0;");
        tooMany(c, "dull", 8, "dull a 0 0;");
        tooMany(c, "WISH", 8, "want a 0 0;");
        tooMany(c, "WISH", 8, "hide a 0 0;");
        c.says("I: at most 8 of both together, WISHES");
        for (int wanted = 0; wanted <= 8; wanted++) {
            String full = TWO + "want a 0 0;".repeat(wanted) + "hide b 1 1;".repeat(8 - wanted);
            c.fine(full, 10);
            c.faulty(full + "want a 0 0;", ROOM, full.length());
            c.faulty(full + "hide a 0 0;", ROOM, full.length());
        }
        c.says("I: at most 8 PEOPLE, 12 FACTS, 8 TALKS, 8 NAPS, 8 dull, 8 WISHES (each has its own room)");
        c.fine("person a;person b;" + "fact a 0;".repeat(12) + "nap a 0;".repeat(8) + "dull a 0 0;".repeat(8)
            + "talk a b 1;".repeat(8) + "want a 0 0;".repeat(8) + "trade a 0;trade b 0;dreams a b;dreams b a;"
            + "law 0;deep 0;year 1;", 53);
    }

    private static void roomAtTheEnd(Check c) {
        c.says("I: 4 ROOM: .. at the text's end: there is no TURNING for all");
        c.faulty("person a;", ROOM, 9);
        c.faulty("person a;\n\n  ", ROOM, 13);
        c.faulty("person a;person b alone;", ROOM, 24);
        c.faulty("person a alone;person b;person c alone;", ROOM, 39);
        c.faulty(Check.people(3) + "dreams a b;dreams b a;", ROOM, 49);
        c.faulty(Check.people(5) + "dreams a b;dreams b a;dreams c d;dreams d c;", ROOM, 89);
        c.fine("person a;person b;", 2);
        c.fine(Check.people(3) + "dreams a b;", 4);
        c.fine(Check.people(3) + "dreams a b;dreams b c;", 5);
        c.fine(Check.people(4) + "dreams a b;dreams b a;dreams c d;", 7);
        c.fine("person a alone;", 1);
        c.fine("person a;person b alone;person c;", 3);
        c.fine("", 0);
    }

    private static void unknown(Check c) {
        c.says("I: 5 UNKNOWN: a W that should be a PERSON and is none; PEOPLE that are named are told ahead");
        String[] clauses = {"dreams x a;", "dreams a x;", "fact x 0;", "talk x a 1;", "talk a x 1;", "nap x 0;",
            "dull x 0 0;", "want x 0 0;", "hide x 0 0;", "trade x 0;"};
        for (String clause : clauses) {
            int place = clause.indexOf(" x") + 1;
            c.faulty(TWO + clause, UNKNOWN, TWO.length() + place);
            c.faulty(TWO + clause + "person x;", UNKNOWN, TWO.length() + place);
            c.fine(TWO + "person x;" + clause, 4);
        }
        c.faulty("fact a 0;", UNKNOWN, 5);
        c.faulty(TWO + "fact alone 0;", UNKNOWN, 23);
        c.faulty(TWO + "fact person 0;", UNKNOWN, 23);
        c.says("I: 5 UNKNOWN: (in dreams also one who is alone)");
        c.faulty(TWO + "person c alone;dreams c a;", UNKNOWN, 40);
        c.faulty(TWO + "person c alone;dreams a c;", UNKNOWN, 42);
        c.faulty(TWO + "person c alone;dreams c c;", UNKNOWN, 40);
        c.says("I: (in dreams also one who is alone: in others he is a PERSON)");
        c.fine(TWO + "person c alone;fact c 0;talk c a 1;talk a c 1;nap c 0;dull c 0 0;want c 0 0;hide c 0 0;"
            + "trade c 0;", 11);
    }

    private static void alone(Check c) {
        c.says("I: alone: dreams nobody and is dreamt by nobody");
        WhoseDay x = Check.in("person a;person b alone;person c;person d;person e alone;");
        for (int number = 0; number < 2; number++) {
            x.turn(number);
            for (int p = 0; p < 5; p++) {
                boolean isAlone = p == 1 || p == 4;
                c.due("dreams(" + p + ")", x.dreams(p) == WhoseDay.NONE ? 1 : 0, isAlone ? 1 : 0);
                c.due("one alone is dreamt", x.dreams(p) == 1 || x.dreams(p) == 4 ? 1 : 0, 0);
            }
        }
        c.due("turnings()", x.turnings(), 2);
    }

    private static void firstComeTo(Check c) {
        c.says("I: FAULTS: .. the first come to as TOKENS are read one by one");
        c.faulty(TWO + "nap x 28;", UNKNOWN, 22);
        c.faulty(TWO + "nap a 28 x", RANGE, 24);
        c.faulty(TWO + "talk a a 0", TWICE, 25);
        c.faulty(TWO + "law 1;law 9999;", TWICE, 24);
        c.faulty(Check.people(8) + "person 1;", ROOM, 72);
        c.faulty("nap a 0;?", UNKNOWN, 4);
        c.faulty("person a;person a;?", TWICE, 16);
        c.faulty(TWO + "dull a 28 29;", RANGE, 25);
        c.faulty(TWO + "dreams x x;", UNKNOWN, 25);
        c.faulty(TWO + "dreams a x;dreams a b;", UNKNOWN, 27);
        c.faulty(TWO + "want x 12 28", UNKNOWN, 23);
        c.faulty("person a;law 4096;", RANGE, 13);
        c.faulty("person a;?", SYNTAX, 9);
    }

    private static void leastKind(Check c) {
        c.says("I: FAULTS: .. of one TOKEN the least KIND");
        // a run too long is no number out of its bounds and no name of nobody
        c.faulty("law 99999;", SYNTAX, 4);
        c.faulty(TWO + "nap abcdefghi 0;", SYNTAX, 22);
        // a number where a word should be, and out of any bounds
        c.faulty(TWO + "nap 9999 0;", SYNTAX, 22);
        // the text's end within a clause of a town that has no turning
        c.faulty("person a", SYNTAX, 8);
        c.faulty("person a;year 3", SYNTAX, 15);
        c.faulty("person a;nap a", SYNTAX, 14);
    }

    private static void places(Check c) {
        c.says("I: PLACE (a TOKEN's first byte; ..)");
        c.faulty("  ?", SYNTAX, 2);
        c.faulty("\n\nlaw  \n 4096;", RANGE, 9);
        c.faulty("law0;  law0;", TWICE, 7);
        c.faulty("nap   zz   0;", UNKNOWN, 6);
        c.faulty(" ".repeat(899) + "?", SYNTAX, 899);
        c.faulty(" ".repeat(897) + "law", SYNTAX, 900);
    }
}
