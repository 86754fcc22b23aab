/** Promise 4: town, of texts with a FAULT. */
public final class P04TownFaultTest {
    private static final String SIX = "r0;r0;r0;r0;r0;r0;";
    private static final String EIGHT = "r0;" + "a0 0 1 1 0;".repeat(8);

    public static void main(String[] args) {
        Check.all(P04TownFaultTest.class);
    }

    private static void fault(int at, String text) {
        new Run().types(text).due("town()", -10 - at).due("clear()", text.length());
    }

    @Says("-10 less FAULT: nothing changes (THE TEXT, too, stays).")
    static void nothingChanges() {
        Run x = Run.town("c3 4 2;r0;r0;a0 3 2 8 5;a1 9 9 9 9;t0 1;");
        x.does("mark(1, 0)", "hears(5, 1)", "keep(1)", "year()", "keep(0)", "hauls(0, 0)", "dies(1)");
        x.types("c3 9 0;r0;a0 1 1 1 1;x").stays(-10 - 21, "town()");
    }

    @Says("-10 less FAULT: nothing changes (THE TEXT, too, stays).")
    static void nothingChangesInANewObject() {
        new Run().types("c3 9 0;r0;r0;t0 1;a0 1 1 1 1").stays(-10 - 28, "town()").row("count(*)", 0, 0, 0, 0, 0, 28);
    }

    @Says("(THE TEXT, too, stays)")
    static void theTextStaysAndMayBeEnded() {
        new Run().types("r0").due("town()", -12).due("count(5)", 2).due("type(59)", 3).due("town()", 1).due("count(0)", 1);
        new Run().types("c0 9 3").due("town()", -16).due("town()", -16).types(";").due("town()", 1).due("cell(0, 0)", 9);
    }

    @Says("(THE TEXT, too, stays)")
    static void aFullTextStays() {
        new Run().types("r0;" + " ".repeat(196) + "x").due("town()", -10 - 199).due("type(32)", Run.FULL).due("clear()", 200);
    }

    @Says("letters that begin no ITEM")
    static void lettersThatBeginNoItem() {
        fault(0, "x");
        fault(0, "b0 1 1;");
        fault(0, "z");
        fault(0, "cc0 1 1;");
        fault(0, "cr");
        fault(0, "rr0;");
        fault(0, "ra0;");
        fault(0, "rz0;");
        fault(0, "tt");
        fault(3, "r0;aa0 1 1 1 1;");
        fault(8, "c0 1 1; xr0;");
        fault(0, "x".repeat(200));
    }

    @Says("FAULT: the place of the first byte of the first TOKEN that can't stand there")
    static void tokensThatBeginNoItem() {
        fault(0, ";");
        fault(3, "r0;;");
        fault(2, "  7");
        fault(0, (int) 'c' + " 0 1 1;");
        fault(3, "r0;0");
        fault(4, "r0; ;");
    }

    @Says("FAULT: the place of the first byte of the first TOKEN that can't stand there")
    static void tokensInsideAnItem() {
        fault(1, "r;");
        fault(2, "r c");
        fault(2, "r ab;");
        fault(2, "c0cc 1;");
        fault(2, "r r0;");
        fault(3, "r0 0;");
        fault(2, "r0r0;");
        fault(3, "r0 r");
        fault(1, "c;");
        fault(2, "c0;");
        fault(4, "c0 1;");
        fault(7, "c0 1 1 1;");
        fault(6, "c0 1 1c");
        fault(7, "c0 1 1 c");
        fault(5, "r0;a0;");
        fault(7, "r0;a0 1;");
        fault(9, "r0;a0 1 1;");
        fault(11, "r0;a0 1 1 1;");
        fault(14, "r0;a0 1 1 1 1 1;");
        fault(13, "r0;a0 1 1 1 1a");
        fault(8, "r0;r0;t0;");
        fault(7, "r0;r0;t;");
        fault(11, "r0;r0;t0 1 0;");
        fault(10, "r0;r0;t0 1r");
    }

    @Says("FAULT: the place of the first byte of the first TOKEN that can't stand there")
    static void theFirstFaultOfSeveral() {
        fault(1, "c99 99 99;x");
        fault(0, "x$100;");
        fault(3, "c0 0 9 01 $");
        fault(1, "r9");
        fault(18, SIX + "r9");
        fault(4, "r0;a9 99 0 0 100");
    }

    @Says("(letters that begin no ITEM, a seventh RAFT, a ninth ANCHOR, B that is A, a NUMBER beyond what it may be, too)")
    static void aSeventhRaft() {
        fault(18, SIX + "r0;");
        fault(18, SIX + "r6;");
        fault(19, SIX + " r");
        fault(21 + 11, SIX + "a5 0 1 1 0;   r0;");
        new Run().types(SIX + "r0;").stays(-28, "town()").due("count(0)", 0);
    }

    @Says("(letters that begin no ITEM, a seventh RAFT, a ninth ANCHOR, B that is A, a NUMBER beyond what it may be, too)")
    static void aNinthAnchor() {
        fault(91, EIGHT + "a0 0 1 1 0;");
        fault(91, EIGHT + "a");
        fault(91, EIGHT + "a9 99 0 0 0;");
        fault(96, EIGHT + "r0;  a1 0 1 1 0;");
    }

    @Says({"B that is A", "ROPES between two unlike RAFTS"})
    static void bThatIsA() {
        fault(6, "r0;t0 0;");
        fault(9, "r0;r0;t1 1;");
        fault(9, "r0;r0;t0 0;");
        fault(10, "r0;r0;t0  0");
    }

    @Says({"a NUMBER beyond what it may be", "c X D G (DEEP, GRIP of a CELL"})
    static void aNumberBeyondInACell() {
        fault(1, "c10 1 1;");
        fault(1, "c99 1 1;");
        fault(3, "c0 0 1;");
        fault(3, "c0 10 1;");
        fault(5, "c0 1 4;");
        fault(5, "c0 1 99;");
    }

    @Says({"a NUMBER beyond what it may be", "NEXT, a RAFT told ahead or its own number"})
    static void aNumberBeyondInARaft() {
        fault(1, "r1;");
        fault(4, "r0;r2;");
        fault(4, "r0;r3;");
        fault(16, "r0;r0;r0;r0;r0;r6;");
    }

    @Says({"a NUMBER beyond what it may be", "a O X W L V (the next ANCHOR of a RAFT told ahead: CELL, WEIGHT, LINKS, WORTH)"})
    static void aNumberBeyondInAnAnchor() {
        fault(1, "a0 0 1 1 0;");
        fault(4, "r0;a1 0 1 1 0;");
        fault(4, "r0;a1 0 1 1 0;r0;");
        fault(6, "r0;a0 10 1 1 0;");
        fault(8, "r0;a0 0 0 1 0;");
        fault(8, "r0;a0 0 10 1 0;");
        fault(10, "r0;a0 0 1 0 0;");
        fault(10, "r0;a0 0 1 61 0;");
        fault(12, "r0;a0 0 1 1 100;");
    }

    @Says({"a NUMBER beyond what it may be", "t A B (a ROPE of two RAFTS told ahead"})
    static void aNumberBeyondInARope() {
        fault(1, "t0 1;");
        fault(6, "r0;t0 1;");
        fault(4, "r0;t1 0;");
        fault(7, "r0;r0;t2 1;");
        fault(9, "r0;r0;t1 2;");
    }

    @Says({"of a byte that begins none", "TOKENS are letters a .. z side by side, NUMBERS and ; ."})
    static void aByteThatBeginsNone() {
        fault(0, "R0;");
        fault(0, "" + (char) 0);
        fault(0, "" + (char) 255);
        fault(0, "-1;");
        fault(1, "r-0;");
        fault(2, "r0:");
        fault(2, "r0<");
        fault(2, "r0,");
        fault(2, "r0" + (char) (';' + 128));
        fault(7, "c0 1 1;$");
        fault(9, "c0 1 1;  %;");
    }

    @Says("TOKENS are letters a .. z side by side")
    static void besideTheLettersFromAToZ() {
        fault(1, "r`");
        fault(1, "r{");
        fault(1, "rA");
        fault(1, "rZ");
        fault(1, "r" + (char) ('r' + 128));
        fault(0, "r" + "a");
        fault(0, "r" + "z");
    }

    @Says("NUMBERS and ; .")
    static void besideTheDigitsFrom0To9() {
        fault(2, "c0/");
        fault(2, "c0:");
        fault(3, "c9 /");
        fault(3, "c9 :");
        fault(4, "c9 1" + (char) ('1' + 128) + " 1;");
    }

    @Says("blanks (32) ahead of, between and behind TOKENS")
    static void otherWhiteBytesAreNoBlanks() {
        fault(0, "\tr0;");
        fault(1, "r\n0;");
        fault(2, "r0\r;");
        fault(3, "r0;" + (char) 0);
        fault(3, "r0;" + (char) 31);
        fault(3, "r0;!");
        fault(3, "r0;" + (char) 160);
    }

    @Says("blanks (32) ahead of, between and behind TOKENS")
    static void aBlankPartsTokens() {
        fault(2, "r r0;");
        fault(15, "r0;a0 1 1 1 9  9;");
        fault(3, "c1 0 1 1;");
        fault(5, "c1 1 9 9;");
    }

    @Says("(none needed where TOKENS end without)")
    static void numbersSideBySideAreOne() {
        fault(1, "c11 1;");
        fault(3, "c0 11;");
        fault(9, "r0;r0;t0 11;");
    }

    @Says("a NUMBER above 99 or with a 0 ahead of others, that TOKEN's")
    static void aNumberAbove99() {
        Run.town("r0;a0 0 1 1 99;").due("anchor(0, 4)", 99);
        fault(12, "r0;a0 0 1 1 100;");
        fault(12, "r0;a0 0 1 1 999;");
        fault(12, "r0;a0 0 1 1 1000");
        fault(1, "c4294967296 1 1;");
        fault(1, "r18446744073709551616;");
        fault(0, "100");
        fault(3, "c0 100 1;");
        fault(1, "r" + "9".repeat(199));
    }

    @Says("a NUMBER above 99 or with a 0 ahead of others, that TOKEN's")
    static void aNumberWithA0AheadOfOthers() {
        Run.town("r0;a0 0 1 10 0;").due("anchor(0, 3)", 10).due("anchor(0, 4)", 0);
        fault(1, "r00;");
        fault(1, "r0100;");
        fault(1, "c01 1 1;");
        fault(3, "c1 01 1;");
        fault(12, "r0;a0 0 1 1 09;");
        fault(12, "r0;a0 0 1 1 000;");
        fault(0, "00");
        fault(2, "r 00;");
    }

    @Says("of a byte that begins none, a NUMBER above 99 or with a 0 ahead of others, that TOKEN's")
    static void atTheFirstByteOfANumberThatEndsTheText() {
        fault(1, "r00");
        fault(1, "r100");
        fault(3, "r0;00");
    }

    @Says("the text's length, if it ends too early")
    static void itEndsTooEarly() {
        fault(1, "r");
        fault(2, "r0");
        fault(1, "c");
        fault(2, "c0");
        fault(4, "c0 1");
        fault(6, "c0 1 1");
        fault(4, "r0;a");
        fault(5, "r0;a0");
        fault(7, "r0;a0 0");
        fault(9, "r0;a0 0 1");
        fault(11, "r0;a0 0 1 1");
        fault(13, "r0;a0 0 1 1 0");
        fault(7, "r0;r0;t");
        fault(8, "r0;r0;t0");
        fault(10, "r0;r0;t0 1");
    }

    @Says("the text's length, if it ends too early")
    static void itEndsTooEarlyBehindBlanks() {
        fault(3, "r  ");
        fault(4, "r0  ");
        fault(7, " c0 1  ");
        fault(200, "r0" + " ".repeat(198));
        fault(200, " ".repeat(199) + "t");
        fault(200, "c1 1 1;".repeat(28) + "r0  ");
    }

    @Says("ITEMS (none, too), each letters and what is told, ended by ; :")
    static void eachItemIsEndedByItsSign() {
        String[] items = {"c1 2 3", "r0", "a0 1 1 1 1", "t0 1"};
        for (String item : items) {
            for (String next : items) {
                Run.town("r0;r0;" + item + ";" + next + ";").due("count(5)", 0);
                fault(6 + item.length(), "r0;r0;" + item + next + ";");
                fault(7 + item.length(), "r0;r0;" + item + " " + next + ";");
            }
            fault(6 + item.length(), "r0;r0;" + item);
        }
    }

    /** Each on an object of its own, so that what a faulty text has told can be seen in no answer. */
    @Says("-10 less FAULT: nothing changes (THE TEXT, too, stays).")
    static void everyAnswerIsAsWithoutAFaultyText() {
        String town = "c3 4 2;c9 1 3;r0;r0;r1;a0 3 2 8 5;a1 9 9 9 9;a2 3 1 7 3;t0 1;";
        String[] faulty = {"c3 9 0;c9 9 0;r0;r1;a0 1 1 60 1;x", "r0;r0;r0;r0;t2 3;t0 2;a3 3 9 60 99;a3 3 9 60 99;a3 9 9 9 9;a3 3 9 9 9;a"};
        String[] calls = {"cell(3, 0)", "cell(3, 1)", "cell(3, 2)", "cell(9, 2)", "raft(0, 0)", "raft(2, 3)", "raft(0, 4)",
            "raft(0, 5)", "raft(3, 0)", "anchor(2, 0)", "anchor(2, 1)", "anchor(0, 2)", "anchor(2, 3)", "anchor(1, 4)",
            "anchor(0, 7)", "anchor(1, 7)", "anchor(2, 8)", "anchor(3, 0)", "storms(9, 1)", "storms(46, 1)", "pays(2, 1)", "dies(2)",
            "dies(3)", "wills(2, 0)", "wills(0, 3)", "year()", "hauls(0, 0)", "hauls(1, 1)", "hauls(3, 3)", "now(0)", "now(4)",
            "needs(2, 9)", "needs(0, 99)", "after(0, 12, 1)", "after(1, 46, 0)", "wreck(99, 4, 0)", "wreck(99, 4, 1)", "wreck(13, 4, 0)",
            "place(7, 4, 0)", "place(7, 4, 1)", "place(7, 4, 2)", "place(2, 36, 1)", "place(8, 1, 3)", "vital(0, 50)", "vital(2, 4)",
            "odds(0, 60, 2, 0)", "odds(1, 99, 4, 1)", "fits()", "ask()", "mark(0, 0)", "mark(1, 2)", "mark(2, 1)", "mark(5, 2)",
            "keep(1)", "count(0)", "count(1)", "count(2)", "trace()"};
        for (String call : calls) {
            long due = Run.town(town).answer(call);
            for (String text : faulty) {
                Run.town(town).types(text).due("town()", -10 - text.length() + (text.endsWith("x") ? 1 : 0)).due(call, due);
            }
        }
    }
}
