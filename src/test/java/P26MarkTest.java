/** Promise 26: mark. */
public final class P26MarkTest {
    /** Strengths: 9 + 5, 2 + 2. */
    private static final String TOWN = "c4 2 2;r0;r0;a0 4 3 10 20;a1 5 1 6 30;";

    public static void main(String[] args) {
        Check.all(P26MarkTest.class);
    }

    @Says({"KINDS of ANCHORS are over one another: 0 RING; 1 KEDGE, 2 STONE, 5 BED (each under RING); 3 GRAPNEL (under KEDGE);"
        + " 4 BELL (under STONE).", "MARK of an ANCHOR as if of a KIND"})
    static void eachKind() {
        Run x = Run.town(TOWN).does("year()", "year()").row("mark(*, 0)", 14, 34, 12, 68, 12, 14);
        x.row("mark(*, 1)", 4, 34, 2, 68, 3, 4);
    }

    @Says("RING its STRENGTH where it LIES, is UP, was LOST (1)")
    static void strengthAndNotHold() {
        Run.town("r0;a0 5 1 3 0;a0 5 1 3 0;").due("anchor(0, 7)", 6).due("mark(0, 0)", 3).does("pays(0, 3)").due("mark(0, 0)", 4);
    }

    @Says("RING its STRENGTH where it LIES, is UP, was LOST (1)")
    static void ofOneUp() {
        Run x = Run.town("c0 1 3;r0;a0 1 1 9 5;").does("storms(6, 0)", "hauls(0, 0)").due("anchor(0, 6)", 1);
        x.row("mark(*, 0)", 13, 18, 13, 36, 13, 18).does("storms(99, 0)").due("mark(0, 0)", 13);
    }

    @Says("RING its STRENGTH where it LIES, is UP, was LOST (1)")
    static void ofOneLostAtBothEnds() {
        Run x = Run.town("c0 1 3;c1 9 0;c9 1 2;c8 9 0;r0;a0 0 1 9 5;a0 9 1 9 5;").due("storms(99, 0)", 1);
        x.due("mark(0, 0)", 13).due("mark(0, 1)", 2).does("undo()").due("storms(99, 1)", 1);
        x.due("mark(0, 0)", 2).due("mark(0, 1)", 12).row("mark(*, 1)", 12, 17, 12, 34, 13, 12);
    }

    @Says("STONE up less its AGE (100)")
    static void below0() {
        Run x = Run.town(TOWN).does(10, "year()").row("mark(*, 1)", 4, 34, -6, 68, -5, 4).does(89, "year()");
        x.due("mark(2, 1)", 4 - 99).due("mark(4, 1)", 4 - 99 + 1).due("mark(2, 0)", 14 - 99).due("mark(4, 0)", 14 - 99);
    }

    @Says("BELL up, and its number (10000)")
    static void theNumberOfTheLast() {
        Run x = Run.town("r0;" + "a0 5 1 3 0;".repeat(8)).row("mark(4, *)", 3, 4, 5, 6, 7, 8, 9, 10);
        x.due("mark(4, 8)", Run.NO);
    }

    @Says("BED up, and WEALTH of its OWNER (100000)")
    static void wealthOfItsOwnerGoneOrNot() {
        Run x = Run.town(TOWN).does("hauls(0, 0)").due("mark(5, 0)", 34).due("mark(5, 1)", 4).does("wills(1, 0)", "dies(1)");
        x.due("anchor(1, 8)", 0).due("mark(5, 1)", 4).does("dies(0)").due("mark(5, 0)", 34);
    }

    @Says("GRAPNEL up times 2 (1000)")
    static void theGreatest() {
        Run.town("c0 1 3;r0;a0 0 9 60 99;").row("mark(*, 0)", 96, 195, 96, 390, 96, 96);
    }

    @Says({"MARK. NO: BAD.", "`NO = -1000000`: What none is, where a number may be below 0."})
    static void kindsFrom0To5() {
        Run.town(TOWN).stays(Run.NO, "mark(-1, 0)", "mark(6, 0)", "mark(2147483647, 0)", "mark(-2147483648, 1)");
    }

    @Says("there is no such thing")
    static void theFirstAndTheLastAnchor() {
        Run.town(TOWN).stays(Run.NO, "mark(0, -1)", "mark(0, 2)", "mark(5, 2)", "mark(4, 7)", "mark(3, 8)", "mark(0, 2147483647)");
        new Run().stays(Run.NO, "mark(0, 0)");
    }

    @Says("KEDGE up, and its WORTH (10).")
    static void itsWorthWhateverItsAge() {
        Run x = Run.town("r0;a0 5 1 3 0;a0 5 1 3 99;a0 5 1 3 1;").row("mark(1, *)", 3, 102, 4).row("mark(3, *)", 6, 204, 8);
        x.does("year()", "year()", "hauls(0, 1)").row("mark(1, *)", 3, 102, 4).row("mark(3, *)", 6, 204, 8);
    }
}
