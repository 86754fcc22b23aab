/** Promise 20: vital. */
public final class P20VitalTest {
    /** Strengths 2, 38, 7 are of one town, 22 of another. */
    private static final String TOWN =
        "c0 9 0;c1 1 3;c9 2 0;r0;r0;r2;a0 0 1 9 10;a0 1 2 30 20;a1 9 3 8 5;a2 5 1 60 0;t0 1;";

    public static void main(String[] args) {
        Check.all(P20VitalTest.class);
    }

    @Says({"each of which, were it LOST alone, brings MIGHT of its TOWN from f or more to less than f", "VITAL, as bits. BAD."})
    static void mightThatIsJustFAndOneLess() {
        Run.town(TOWN).due("raft(0, 5)", 47).due("vital(0, 47)", 7).due("vital(1, 47)", 7).due("vital(0, 48)", 0)
            .due("vital(0, 49)", 0).due("vital(0, 99)", 0);
    }

    @Says("to less than f")
    static void mightWithoutOneThatIsJustFAndOneLess() {
        Run x = Run.town(TOWN).due("vital(0, 46)", 7).due("vital(0, 45)", 6).due("vital(0, 41)", 6).due("vital(0, 40)", 2);
        x.due("vital(0, 10)", 2).due("vital(0, 9)", 0).due("vital(0, 1)", 0);
        Run.town("c5 9 0;r0;a0 5 1 1 0;").due("vital(0, 1)", 1).due("vital(0, 2)", 0);
    }

    @Says("were it LOST alone")
    static void ofTheFouledEachAlone() {
        Run x = Run.town("r0;a0 5 1 3 0;a0 5 1 3 0;a0 5 4 3 0;").due("vital(0, 15)", 7).due("vital(0, 12)", 4);
        x.due("vital(0, 13)", 7).due("vital(0, 7)", 4).due("vital(0, 6)", 0);
    }

    @Says("ANCHORS (bits) each of which, were it LOST alone")
    static void thoseUpOrLostAreNotVital() {
        Run x = Run.town(TOWN).does("hauls(0, 0)").due("vital(0, 45)", 6).due("vital(0, 47)", 0).does("storms(8, 1)");
        x.due("now(2)", 4).due("vital(0, 38)", 2).due("vital(0, 39)", 0);
    }

    @Says("MIGHT of a TOWN: STRENGTHS of all ANCHORS that LIE and of which OWNER (GONE or not) is of it, together.")
    static void ofItsTownAloneGoneOrNot() {
        Run x = Run.town(TOWN).due("vital(2, 22)", 8).due("vital(2, 23)", 0).does("dies(0)", "dies(1)").due("vital(0, 47)", 7);
        x.due("vital(1, 47)", 7).does("dies(2)").due("vital(2, 22)", 8);
        Run.town("r0;a0 5 1 3 0;r1;").due("vital(1, 1)", 0).due("vital(0, 1)", 1);
    }

    @Says("VITAL for a RAFT by f")
    static void fFrom1To99() {
        Run.town(TOWN).stays(Run.BAD, "vital(0, 0)", "vital(0, 100)", "vital(0, -1)", "vital(0, 2147483647)");
        Run.town("c4 1 2;r0;a0 4 9 60 0;a0 4 1 9 0;").due("raft(0, 5)", 99).due("vital(0, 99)", 3).due("vital(0, 87)", 1);
    }

    @Says("there is no such thing")
    static void theFirstAndTheLastRaft() {
        Run.town(TOWN).stays(Run.BAD, "vital(-1, 1)", "vital(3, 1)", "vital(5, 1)", "vital(6, 1)", "vital(2147483647, 1)");
        Run.town("r0;").stays(Run.BAD, "vital(1, 1)").due("vital(0, 1)", 0);
    }

    @Says("(Nothing is changed.)")
    static void nothingIsChanged() {
        Run.town(TOWN).does("year()").stays(7, "vital(0, 47)");
    }
}
