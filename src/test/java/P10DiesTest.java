/** Promise 10: dies. */
public final class P10DiesTest {
    public static void main(String[] args) {
        Check.all(P10DiesTest.class);
    }

    @Says("DEAD: how many are GONE.")
    static void howManyAreGone() {
        Run x = Run.town("r0;r0;r0;r0;r0;r0;").due("dies(3)", 1).due("dies(0)", 2).due("dies(5)", 3).due("now(3)", 0b101001);
        x.due("dies(1)", 4).due("dies(2)", 5).due("dies(4)", 6).due("now(3)", 63).due("count(4)", 6);
        x.due("undo()", 5).due("dies(4)", 6);
    }

    @Says("BAD; STATE: it is.")
    static void oneThatIsGone() {
        Run x = Run.town("r0;r0;a0 1 1 1 1;").due("dies(1)", 1).stays(Run.STATE, "dies(1)").due("dies(0)", 2);
        x.stays(Run.STATE, "dies(0)", "dies(1)").due("undo()", 1).due("dies(0)", 2);
    }

    @Says("there is no such thing")
    static void theFirstAndTheLastRaft() {
        Run.town("r0;r0;").stays(Run.BAD, "dies(-1)", "dies(2)", "dies(5)", "dies(6)", "dies(2147483647)", "dies(-2147483648)");
        Run.town("r0;r0;").due("dies(0)", 1).stays(Run.BAD, "dies(2)", "dies(-1)", "dies(32)");
        new Run().stays(Run.BAD, "dies(0)");
    }

    @Says("DEAD: a RAFT is GONE.")
    static void nothingElseIsChanged() {
        Run x = Run.town("r0;r0;a1 5 1 1 7;").does("hauls(1, 0)", "dies(1)");
        x.row("raft(1, *)", 0, 1, 7, 0, 2, 0).row("raft(0, *)", 0, 0, 0).due("now(4)", 7);
    }
}
