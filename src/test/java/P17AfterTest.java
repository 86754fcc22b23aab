/** Promise 17: after. */
public final class P17AfterTest {
    /** Holds: 2, 38, 7. */
    private static final String TOWN = "c0 9 0;c1 1 3;c9 2 0;r0;r0;a0 0 1 9 10;a0 1 2 30 20;a1 9 3 8 5;";

    public static void main(String[] args) {
        Check.all(P17AfterTest.class);
    }

    @Says("AFTER a STORM f to a side: the CELL of an ANCHOR")
    static void theCell() {
        Run.town(TOWN).due("after(0, 2, 0)", 0).due("after(0, 3, 1)", 1).due("after(1, 38, 0)", 1).due("after(1, 39, 0)", 0)
            .due("after(1, 39, 1)", 2).due("after(2, 7, 0)", 9).due("after(2, 8, 0)", 8);
    }

    @Says("NONE (LOST, UP)")
    static void noneIfTheStormTakesIt() {
        Run.town(TOWN).due("after(0, 2, 0)", 0).due("after(0, 3, 0)", Run.NONE).due("after(2, 7, 1)", 9)
            .due("after(2, 8, 1)", Run.NONE);
    }

    @Says("NONE (LOST, UP)")
    static void noneIfItIsLostOrUp() {
        Run.town(TOWN).does("storms(3, 0)").stays(Run.NONE, "after(0, 1, 0)", "after(0, 1, 1)", "after(0, 99, 1)");
        Run.town(TOWN).does("hauls(0, 1)").stays(Run.NONE, "after(1, 1, 0)", "after(1, 99, 1)");
    }

    @Says("HOLD of one that LIES: STRENGTHS of all that LIE in its CELL, together (they are FOULED).")
    static void byHoldOfTheFouled() {
        Run.town("r0;a0 5 1 3 0;a0 5 1 3 0;").due("after(0, 6, 1)", 5).due("after(0, 7, 1)", 6).due("after(1, 7, 0)", 4);
        Run.town("r0;a0 4 1 3 0;a0 5 1 6 0;").due("after(0, 4, 1)", 5).due("after(1, 4, 1)", 5).due("after(1, 5, 1)", 6);
    }

    @Says("STORM f (1 .. 99)")
    static void fFrom1To99() {
        Run.town(TOWN).due("after(0, 1, 0)", 0).due("after(0, 99, 1)", 1);
        Run.town(TOWN).stays(Run.BAD, "after(0, 0, 0)", "after(0, 100, 0)", "after(0, -1, 0)", "after(0, 2147483647, 0)");
    }

    @Says("(0: lower CELLS, 1: higher ones)")
    static void sides0And1() {
        Run.town(TOWN).stays(Run.BAD, "after(0, 1, -1)", "after(0, 1, 2)", "after(0, 99, 2147483647)");
    }

    @Says("there is no such thing")
    static void theFirstAndTheLastAnchor() {
        Run.town(TOWN).stays(Run.BAD, "after(-1, 1, 0)", "after(3, 1, 0)", "after(8, 1, 0)", "after(2147483647, 1, 0)");
    }

    @Says("AFTER; NONE. BAD.")
    static void badIsAheadOfNone() {
        Run.town(TOWN).does("hauls(0, 0)").stays(Run.BAD, "after(0, 0, 0)", "after(0, 100, 0)", "after(0, 1, 2)", "after(0, 1, -1)");
    }

    @Says("(Nothing is changed.)")
    static void nothingIsChanged() {
        Run.town(TOWN).does("year()").stays(Run.NONE, "after(0, 99, 0)").stays(2, "after(1, 99, 1)");
    }
}
