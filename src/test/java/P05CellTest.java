/** Promise 5: cell. */
public final class P05CellTest {
    public static void main(String[] args) {
        Check.all(P05CellTest.class);
    }

    @Says("Of a CELL: 0 DEEP, 1 GRIP, 2 ANCHORS that LIE there (bits).")
    static void whatItIs() {
        Run x = Run.town("c0 9 3;c5 4 2;c9 1 0;r0;a0 5 1 1 1;a0 9 1 1 1;a0 5 1 1 1;a0 0 1 1 1;");
        x.row("cell(0, *)", 9, 3, 8).row("cell(5, *)", 4, 2, 5).row("cell(9, *)", 1, 0, 2).row("cell(4, *)", 3, 1, 0);
        Run.town("r0;" + "a0 7 1 1 0;".repeat(8)).due("cell(7, 2)", 255);
    }

    @Says("2 ANCHORS that LIE there (bits)")
    static void thoseUpOrLostDoNotLieThere() {
        Run x = Run.town("r0;a0 9 1 1 1;a0 9 1 1 1;a0 9 9 1 1;a0 0 1 1 1;").due("cell(9, 2)", 7);
        x.due("hauls(0, 0)", 1).due("cell(9, 2)", 6).due("storms(99, 1)", 2).due("cell(9, 2)", 0).due("cell(1, 2)", 8);
        x.due("undo()", 1).due("cell(9, 2)", 6).due("cell(0, 2)", 8);
    }

    @Says("CELLS 0 ..")
    static void theFirstAndTheLastCell() {
        new Run().row("cell(0, *)", 3, 1, 0).row("cell(9, *)", 3, 1, 0);
        new Run().stays(Run.BAD, "cell(-1, 0)", "cell(10, 0)", "cell(-1, 2)", "cell(10, 2)");
        new Run().stays(Run.BAD, "cell(2147483647, 1)", "cell(-2147483648, 1)");
    }

    @Says("0 DEEP, 1 GRIP, 2 ANCHORS that LIE there (bits). BAD.")
    static void whatFrom0To2() {
        new Run().stays(Run.BAD, "cell(0, -1)", "cell(0, 3)", "cell(9, 3)", "cell(0, 2147483647)", "cell(0, -2147483648)");
    }

    @Says({"CELLS 0 ..", "9 lie in a row:"})
    static void tenCellsInARow() {
        Run x = Run.town("r0;a0 0 1 1 1;");
        for (int cell = 0; cell < 9; cell++) {
            x.due("cell(" + cell + ", 2)", 1).due("cell(" + (cell + 1) + ", 2)", 0).does("storms(3, 1)");
            x.due("cell(" + cell + ", 2)", 0).due("cell(" + (cell + 1) + ", 2)", 1);
        }
        for (int cell = 9; cell > 0; cell--) {
            x.does("storms(3, 0)").due("cell(" + cell + ", 2)", 0).due("cell(" + (cell - 1) + ", 2)", 1);
        }
        x.due("storms(3, 0)", 1).due("cell(0, 2)", 0);
    }
}
