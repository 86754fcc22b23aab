/** Promise 7: anchor. */
public final class P07AnchorTest {
    /** 0 and 1 foul one another in cell 1 (6 + 2 * 3 + 3), 2 lies alone in cell 9 (2 + 1). */
    private static final String TOWN = "c1 2 2;r0;r0;a0 1 2 12 40;a1 1 1 6 20;a1 9 1 3 7;";

    public static void main(String[] args) {
        Check.all(P07AnchorTest.class);
    }

    @Says("Of an ANCHOR: 0 OWNER, 1 CELL (where it LIES, or did), 2 WEIGHT, 3 LINKS, 4 WORTH, 5 AGE,")
    static void whatItIs() {
        Run x = Run.town(TOWN).row("anchor(0, *)", 0, 1, 2, 12, 40, 0, 0, 18, 0);
        x.row("anchor(1, *)", 1, 1, 1, 6, 20, 0, 0, 18, 1).row("anchor(2, *)", 1, 9, 1, 3, 7, 0, 0, 3, 1);
        x.does("year()", "pays(2, 5)", "dies(1)").row("anchor(2, *)", 1, 9, 1, 8, 7, 1, 0, 4, 0);
    }

    @Says("there is no such thing")
    static void theFirstAndTheLastAnchor() {
        Run.town(TOWN).stays(Run.BAD, "anchor(-1, 0)", "anchor(3, 0)", "anchor(7, 1)", "anchor(8, 6)", "anchor(3, 8)");
        Run.town(TOWN).stays(Run.BAD, "anchor(2147483647, 7)", "anchor(-2147483648, 7)", "anchor(3, 7)");
        Run.town("r0;").stays(Run.BAD, "anchor(0, 0)", "anchor(0, 6)");
    }

    @Says("7 HOLD (NONE: it does not LIE), 8 WHOSE (NONE). BAD.")
    static void whatFrom0To8() {
        Run.town(TOWN).stays(Run.BAD, "anchor(0, -1)", "anchor(0, 9)", "anchor(2, 9)", "anchor(0, 2147483647)");
    }

    @Says("1 CELL (where it LIES, or did)")
    static void whereItDidLie() {
        Run x = Run.town("r0;a0 0 1 1 0;a0 9 1 1 0;a0 4 1 1 0;").does("storms(99, 0)");
        x.due("anchor(0, 1)", 0).due("anchor(0, 6)", 2).due("anchor(1, 1)", 8).due("anchor(2, 1)", 3);
        x.does("storms(99, 1)", "storms(99, 1)").due("anchor(0, 1)", 0).due("anchor(1, 1)", 9).due("anchor(1, 6)", 2);
        x.does("hauls(0, 2)", "storms(99, 0)").due("anchor(2, 1)", 5).due("anchor(2, 6)", 1);
    }

    @Says("6 what it is (0 it LIES, 1 UP, 2 LOST)")
    static void whatItIsNow() {
        Run x = Run.town(TOWN).due("anchor(2, 6)", 0).does("hauls(1, 2)").due("anchor(2, 6)", 1);
        x.does("undo()", "storms(4, 1)").due("anchor(2, 6)", 2).due("anchor(0, 6)", 0);
    }

    @Says("7 HOLD (NONE: it does not LIE)")
    static void holdOfOneThatDoesNotLie() {
        Run x = Run.town(TOWN).does("hauls(1, 2)").due("anchor(2, 7)", Run.NONE).does("undo()");
        x.does("storms(4, 1)").due("anchor(2, 7)", Run.NONE).does("undo()").due("anchor(2, 7)", 3);
    }

    @Says("HOLD of one that LIES: STRENGTHS of all that LIE in its CELL, together (they are FOULED).")
    static void holdIsOfThoseThatLieThere() {
        Run x = Run.town("r0;" + "a0 4 9 60 9;".repeat(3) + "a0 5 1 1 1;").due("anchor(1, 7)", 114).due("anchor(3, 7)", 2);
        x.does("hauls(0, 0)").due("anchor(1, 7)", 76).due("anchor(2, 7)", 76).due("anchor(0, 7)", Run.NONE);
        Run y = Run.town("r0;a0 9 1 3 0;a0 8 1 3 0;").does("storms(4, 1)").due("anchor(1, 1)", 9).due("anchor(1, 7)", 3);
        y.due("anchor(0, 7)", Run.NONE);
    }

    @Says("STRENGTH of an ANCHOR: WEIGHT times (GRIP of its CELL and 1), and LINKS by DEEP (cut)")
    static void strengthIsCut() {
        Run x = Run.town("c0 9 0;c1 7 0;c2 1 3;c3 2 1;r0;a0 0 1 8 0;a0 1 1 60 0;a0 2 9 60 0;a0 3 4 5 0;");
        x.due("anchor(0, 7)", 1).due("anchor(1, 7)", 1 + 8).due("anchor(2, 7)", 36 + 60).due("anchor(3, 7)", 8 + 2);
        x.does("pays(0, 1)").due("anchor(0, 7)", 2).does("pays(0, 8)").due("anchor(0, 7)", 2);
        x.does("pays(0, 1)").due("anchor(0, 7)", 3);
    }

    @Says("WHOSE an ANCHOR is: the OWNER's, if it is not GONE; else NEXT of it, likewise, and so on;")
    static void whoseGoesOn() {
        Run x = Run.town("r0;r0;r1;r2;r3;r4;a5 0 1 1 9;").due("anchor(0, 8)", 5);
        for (int r = 5; r > 0; r--) {
            x.does("dies(" + r + ")").due("anchor(0, 8)", r - 1).due("anchor(0, 0)", 5);
        }
        x.does("undo()").due("anchor(0, 8)", 1);
        Run.town("r0;r0;a0 0 1 1 9;").does("wills(0, 1)").due("anchor(0, 8)", 0);
    }

    @Says("NONE, if that comes to nobody")
    static void whoseIsNoneWhereThereIsNoNext() {
        Run.town("r0;r1;a0 0 1 1 9;").does("dies(0)").due("anchor(0, 8)", Run.NONE);
        Run x = Run.town("r0;r0;r1;a2 0 1 1 9;").does("dies(2)", "dies(0)").due("anchor(0, 8)", 1);
        x.does("dies(1)").due("anchor(0, 8)", Run.NONE);
        Run.town("r0;r0;r1;r2;r3;r4;a5 0 1 1 9;").does("dies(0)", "dies(1)", "dies(2)", "dies(3)", "dies(4)", "dies(5)")
            .due("anchor(0, 8)", Run.NONE);
    }

    @Says("(or goes round among RAFTS that are GONE)")
    static void whoseIsNoneWhereItGoesRound() {
        Run x = Run.town("r0;r0;a0 0 1 1 9;a1 1 1 1 9;").does("wills(0, 1)", "dies(0)").due("anchor(0, 8)", 1);
        x.does("dies(1)").due("anchor(0, 8)", Run.NONE).due("anchor(1, 8)", Run.NONE);
        Run y = Run.town("r0;r0;r1;r2;a3 0 1 1 9;a0 1 1 1 9;").does("wills(0, 2)", "dies(0)", "dies(1)", "dies(2)", "dies(3)");
        y.due("anchor(0, 8)", Run.NONE).due("anchor(1, 8)", Run.NONE);
    }

    @Says("(or goes round among RAFTS that are GONE)")
    static void whoseIsNoneWhereAllSixGoRound() {
        Run x = Run.town("r0;r0;r1;r2;r3;r4;a0 0 1 1 9;").does("wills(0, 5)");
        x.does("dies(0)", "dies(5)", "dies(4)", "dies(3)", "dies(2)").due("anchor(0, 8)", 1);
        x.does("dies(1)").due("anchor(0, 8)", Run.NONE);
    }

    @Says("An ANCHOR LIES at first, no RAFT is GONE, AGE of each ANCHOR, WEALTH of each RAFT is 0.")
    static void atFirst() {
        Run x = Run.town(TOWN);
        for (int a = 0; a < 3; a++) {
            x.due("anchor(" + a + ", 5)", 0).due("anchor(" + a + ", 6)", 0);
        }
        x.due("raft(0, 1)", 0).due("raft(1, 1)", 0).due("raft(0, 2)", 0).due("raft(1, 2)", 0);
    }
}
