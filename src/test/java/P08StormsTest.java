/** Promise 8: storms. */
public final class P08StormsTest {
    /** Anchor 0 holds 99 in cell 4, with 1 that fouls it. */
    private static final String MOST = "c4 1 2;r0;a0 4 9 60 0;a0 4 1 9 0;";

    public static void main(String[] args) {
        Check.all(P08StormsTest.class);
    }

    @Says("STORM f (1 .. 99)")
    static void fFrom1To99() {
        Run.town("r0;a0 5 1 1 0;").stays(Run.BAD, "storms(0, 0)", "storms(100, 0)", "storms(-1, 1)", "storms(2147483647, 1)");
        Run.town("r0;a0 5 1 1 0;").stays(Run.BAD, "storms(-2147483648, 0)", "storms(0, 1)", "storms(100, 1)");
        Run.town("c5 9 0;r0;a0 5 1 1 0;").due("storms(1, 0)", 0).due("anchor(0, 1)", 5).due("count(4)", 1);
        Run.town(MOST).due("storms(99, 0)", 0).due("anchor(0, 1)", 4).due("count(4)", 1);
    }

    @Says("to a side (0: lower CELLS, 1: higher ones)")
    static void sides0And1() {
        Run.town("r0;a0 5 1 1 0;").stays(Run.BAD, "storms(9, -1)", "storms(9, 2)", "storms(9, 2147483647)");
        Run.town("r0;a0 5 1 1 0;").due("storms(9, 0)", 0).due("anchor(0, 1)", 4);
        Run.town("r0;a0 5 1 1 0;").due("storms(9, 1)", 0).due("anchor(0, 1)", 6);
    }

    @Says("HOLD (as it is ahead of all moves) is less than f")
    static void holdThatIsJustFAndOneLess() {
        Run.town("r0;a0 5 3 12 0;").due("anchor(0, 7)", 10).does("storms(10, 0)").due("anchor(0, 1)", 5);
        Run.town("r0;a0 5 3 12 0;").does("storms(9, 0)").due("anchor(0, 1)", 5);
        Run.town("r0;a0 5 3 12 0;").does("storms(11, 0)").due("anchor(0, 1)", 4);
    }

    @Says("HOLD (as it is ahead of all moves) is less than f")
    static void theWeakestHoldsAgainst1() {
        Run.town("c0 9 0;r0;a0 0 1 1 0;").due("anchor(0, 7)", 1).due("storms(1, 0)", 0).due("storms(2, 0)", 1);
    }

    @Says("HOLD (as it is ahead of all moves) is less than f")
    static void aHoldOf98DragsBy99() {
        Run x = Run.town(MOST).due("anchor(0, 7)", 99).due("anchor(1, 7)", 99).does("storms(99, 1)").due("cell(4, 2)", 3);
        x.does("pays(1, -1)").due("anchor(0, 7)", 98).does("storms(98, 1)").due("cell(4, 2)", 3);
        x.does("storms(99, 1)").due("cell(5, 2)", 3);
    }

    @Says("(they are FOULED)")
    static void theFouledDragOrHoldTogether() {
        Run x = Run.town("r0;a0 5 1 3 0;a0 5 4 3 0;").due("anchor(0, 7)", 12).does("storms(12, 0)").due("cell(5, 2)", 3);
        x.does("storms(13, 0)").due("cell(4, 2)", 3).due("cell(5, 2)", 0);
    }

    @Says("(as it is ahead of all moves)")
    static void holdsAreAsAheadOfAllMoves() {
        Run x = Run.town("r0;a0 4 1 3 0;a0 5 1 6 0;a0 6 9 3 0;").does("storms(5, 1)");
        x.due("anchor(0, 1)", 5).due("anchor(1, 1)", 6).due("anchor(2, 1)", 6).due("anchor(1, 7)", 4 + 19);
        Run y = Run.town("r0;a0 6 1 3 0;a0 5 1 6 0;a0 4 9 3 0;").does("storms(5, 0)");
        y.due("anchor(0, 1)", 5).due("anchor(1, 1)", 4).due("anchor(2, 1)", 4).due("anchor(0, 7)", 3);
    }

    @Says("go one CELL to that side, all at once")
    static void oneDoesNotCatchAnotherThatGoes() {
        Run x = Run.town("r0;a0 5 1 3 0;a0 4 1 3 0;").does("storms(6, 0)").due("anchor(0, 1)", 4).due("anchor(1, 1)", 3);
        x.does("storms(6, 1)").due("anchor(0, 1)", 5).due("anchor(1, 1)", 4);
    }

    @Says("all at once")
    static void oneLeavesAFouledCellAsAnotherComes() {
        Run x = Run.town("r0;a0 4 3 3 0;a0 5 1 3 0;").does("storms(6, 0)").due("cell(4, 2)", 3).due("anchor(0, 7)", 10);
        x.does("storms(10, 0)").due("cell(4, 2)", 3).does("storms(11, 0)").due("cell(3, 2)", 3);
    }

    @Says("from the last CELL they are LOST")
    static void fromCell0ToTheLowerSide() {
        Run x = Run.town("r0;a0 0 1 1 0;a0 1 1 1 0;").due("storms(9, 0)", 1).due("now(2)", 1).due("anchor(0, 1)", 0);
        x.due("anchor(1, 1)", 0).due("anchor(1, 6)", 0).due("storms(9, 0)", 1).due("now(2)", 3);
    }

    @Says("from the last CELL they are LOST")
    static void fromCell9ToTheHigherSide() {
        Run x = Run.town("r0;a0 9 1 1 0;a0 8 1 1 0;").due("storms(9, 1)", 1).due("now(2)", 1).due("anchor(0, 1)", 9);
        x.due("anchor(1, 1)", 9).due("anchor(1, 6)", 0).due("storms(9, 1)", 1).due("now(2)", 3);
    }

    @Says("from the last CELL they are LOST")
    static void fromTheLastCellsToTheOtherSide() {
        Run.town("r0;a0 0 1 1 0;").due("storms(9, 1)", 0).due("anchor(0, 1)", 1).due("now(0)", 1);
        Run.town("r0;a0 9 1 1 0;").due("storms(9, 0)", 0).due("anchor(0, 1)", 8).due("now(0)", 1);
    }

    @Says("from the last CELL they are LOST")
    static void thoseThatHoldInTheLastCellsAreNotLost() {
        Run.town("r0;a0 0 1 3 0;a0 9 1 3 0;").due("storms(3, 0)", 0).due("storms(3, 1)", 0).due("now(0)", 3);
    }

    @Says("STORM: how many are LOST by it.")
    static void howManyAreLostByIt() {
        Run x = Run.town("r0;" + "a0 0 1 1 0;".repeat(8)).due("storms(99, 0)", 8).due("storms(99, 0)", 0);
        x.due("now(2)", 255).due("undo()", 1).due("undo()", 0).due("now(2)", 0).due("storms(99, 1)", 0);
        Run.town("r0;a0 0 1 1 0;a0 9 1 1 0;").due("storms(9, 0)", 1).due("storms(9, 0)", 0).due("storms(9, 1)", 0)
            .due("storms(9, 1)", 0).due("storms(9, 1)", 1);
    }

    @Says("all ANCHORS of which HOLD")
    static void thoseUpOrLostDoNotGo() {
        Run x = Run.town("r0;a0 5 1 1 0;a0 5 1 1 0;a0 9 1 1 0;").does("hauls(0, 0)").due("storms(4, 1)", 1);
        x.due("anchor(0, 1)", 5).due("anchor(1, 1)", 6).due("anchor(2, 1)", 9).does("storms(9, 0)");
        x.due("anchor(0, 1)", 5).due("anchor(0, 6)", 1).due("anchor(2, 1)", 9).due("anchor(2, 6)", 2);
    }

    @Says("UNDONE: the latest STORM, PAID, DEAD, CODICIL, YEAR, HAULED")
    static void aStormThatAllHoldMayBeUndone() {
        Run.town("r0;a0 5 9 1 0;").due("storms(1, 0)", 0).due("count(4)", 1).due("undo()", 0);
    }

    @Says("BAD.")
    static void badOfBoth() {
        new Run().stays(Run.BAD, "storms(0, 2)", "storms(100, -1)", "storms(0, 0)", "storms(1, 2)").due("storms(1, 0)", 0);
    }
}
