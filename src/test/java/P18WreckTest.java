/** Promise 18: wreck. */
public final class P18WreckTest {
    private static final String ENDS = "r0;a0 0 1 1 0;a0 8 1 1 0;";

    public static void main(String[] args) {
        Check.all(P18WreckTest.class);
    }

    @Says("WRECK by f, n (0 .. 4): of all rows of n STORMS of f, each to a side of its own")
    static void nFrom0To4() {
        Run.town(ENDS).stays(Run.BAD, "wreck(9, -1, 0)", "wreck(9, 5, 0)", "wreck(9, -1, 1)", "wreck(9, 5, 1)");
        Run.town(ENDS).stays(Run.BAD, "wreck(9, 2147483647, 0)", "wreck(9, -2147483648, 0)");
        Run x = Run.town("r0;a0 3 1 1 0;").due("wreck(9, 0, 0)", 0).due("wreck(9, 1, 0)", 0).due("wreck(9, 2, 0)", 0);
        x.due("wreck(9, 3, 0)", 0).due("wreck(9, 4, 0)", 1).due("wreck(9, 4, 1)", 0);
        Run.town("r0;a0 6 1 1 0;").due("wreck(9, 3, 0)", 0).due("wreck(9, 4, 0)", 1).due("wreck(9, 4, 1)", 15);
    }

    @Says("n (0 .. 4)")
    static void noStormTakesNothing() {
        Run.town("r0;a0 0 1 1 0;a0 9 1 1 0;").due("wreck(99, 0, 0)", 0).due("wreck(99, 0, 1)", 0);
        Run.town("r0;a0 0 1 1 0;").does("storms(99, 0)").due("wreck(99, 0, 0)", 0).due("wreck(99, 0, 1)", 0);
    }

    @Says({"that by which most ANCHORS are LOST", "WRECK: how many (what = 0), the sides (1)."})
    static void mostAreLost() {
        Run.town("r0;a0 9 1 1 0;a0 9 1 1 0;a0 0 1 1 0;").due("wreck(9, 1, 0)", 2).due("wreck(9, 1, 1)", 1);
        Run.town("r0;a0 9 1 1 0;a0 0 1 1 0;a0 0 1 1 0;").due("wreck(9, 1, 0)", 2).due("wreck(9, 1, 1)", 0);
        Run.town("r0;" + "a0 0 1 1 0;".repeat(8)).due("wreck(99, 1, 0)", 8).due("wreck(99, 1, 1)", 0)
            .due("wreck(99, 4, 0)", 8).due("wreck(99, 4, 1)", 0);
    }

    @Says("(beyond those that are)")
    static void beyondThoseThatAre() {
        Run x = Run.town("r0;a0 0 1 1 0;a0 0 1 1 0;a0 9 1 1 0;").due("storms(9, 0)", 2).due("wreck(9, 1, 0)", 0);
        x.due("wreck(9, 1, 1)", 0).due("wreck(9, 2, 0)", 1).due("wreck(9, 2, 1)", 3);
        Run.town("r0;a0 0 1 1 0;").does("hauls(0, 0)").due("wreck(9, 4, 0)", 0).due("wreck(9, 4, 1)", 0);
    }

    @Says("of several the first (by the first STORM, then the next one, ..; side 0 ahead of 1)")
    static void ofSeveralTheFirst() {
        Run.town("r0;a0 0 1 1 0;a0 9 1 1 0;").due("wreck(9, 1, 0)", 1).due("wreck(9, 1, 1)", 0);
        Run.town("r0;a0 5 1 1 0;").due("wreck(9, 4, 0)", 0).due("wreck(9, 4, 1)", 0);
        Run.town("r0;a0 5 9 1 0;").due("wreck(1, 4, 0)", 0).due("wreck(1, 4, 1)", 0);
    }

    @Says("(by the first STORM, then the next one, ..; side 0 ahead of 1)")
    static void theFirstStormWeighsMost() {
        Run.town("r0;a0 9 1 1 0;a0 9 1 1 0;a0 8 1 1 0;").due("wreck(9, 2, 0)", 3).due("wreck(9, 2, 1)", 3);
        Run x = Run.town("r0;a0 8 1 1 0;").due("wreck(9, 2, 0)", 1).due("wreck(9, 2, 1)", 3).due("wreck(9, 3, 0)", 1);
        x.due("wreck(9, 3, 1)", 0b011).due("wreck(9, 4, 1)", 0b1110);
        Run.town("r0;a0 1 1 1 0;").due("wreck(9, 3, 1)", 0).due("wreck(9, 4, 1)", 0);
    }

    @Says("how many; the sides (bits, bit k for the k-th STORM).")
    static void sidesAsBits() {
        Run x = Run.town(ENDS).due("wreck(9, 1, 1)", 0).due("wreck(9, 4, 0)", 2).due("wreck(9, 4, 1)", 0b1110);
        x.does("storms(9, 0)").due("now(2)", 1).due("wreck(9, 3, 0)", 1).due("wreck(9, 3, 1)", 0b111);
        Run y = Run.town("r0;a0 9 1 1 0;a0 9 1 1 0;a0 1 1 1 0;").due("wreck(9, 2, 0)", 2).due("wreck(9, 2, 1)", 0b01);
        y.due("wreck(9, 3, 0)", 2).due("wreck(9, 3, 1)", 0b110).due("wreck(9, 4, 0)", 3).due("wreck(9, 4, 1)", 0b0001);
    }

    @Says("HOLD (as it is ahead of all moves) is less than f")
    static void holdsBetweenTheStorms() {
        Run x = Run.town("r0;a0 1 1 3 0;a0 0 3 3 0;").due("wreck(3, 4, 0)", 0).due("wreck(4, 2, 0)", 0).due("wreck(7, 4, 0)", 0);
        x.due("wreck(8, 1, 0)", 1).due("wreck(8, 2, 0)", 2).due("wreck(8, 2, 1)", 0);
        Run.town("c0 3 3;r0;a0 1 1 3 0;").due("wreck(5, 2, 0)", 0).due("wreck(5, 4, 0)", 0).due("wreck(6, 2, 0)", 1);
    }

    @Says("how many (what = 0), the sides (1). BAD.")
    static void whatIs0Or1() {
        Run.town(ENDS).stays(Run.BAD, "wreck(9, 1, -1)", "wreck(9, 1, 2)", "wreck(9, 0, 2)", "wreck(9, 1, 2147483647)");
    }

    @Says("STORM f (1 .. 99)")
    static void fFrom1To99() {
        Run.town("c0 9 0;r0;a0 0 1 1 0;").due("wreck(1, 1, 0)", 0).due("wreck(2, 1, 0)", 1).due("wreck(99, 1, 0)", 1);
        Run.town(ENDS).stays(Run.BAD, "wreck(0, 1, 0)", "wreck(100, 1, 0)", "wreck(-1, 0, 0)", "wreck(2147483647, 1, 1)");
    }

    @Says("(Nothing is changed.)")
    static void nothingIsChanged() {
        Run.town(ENDS).does("year()", "hears(1, 1)").stays(2, "wreck(9, 4, 0)").stays(14, "wreck(9, 4, 1)");
    }
}
