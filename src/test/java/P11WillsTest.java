/** Promise 11: wills. */
public final class P11WillsTest {
    public static void main(String[] args) {
        Check.all(P11WillsTest.class);
    }

    @Says("CODICIL: NEXT till then.")
    static void nextTillThen() {
        Run x = Run.town("r0;r0;r1;").due("wills(0, 2)", 0).due("raft(0, 0)", 2).due("wills(0, 1)", 2).due("raft(0, 0)", 1);
        x.due("wills(2, 0)", 1).due("raft(1, 0)", 0).due("count(4)", 3);
    }

    @Says("becomes another RAFT (or itself)")
    static void anotherRaftOrItself() {
        Run.town("r0;r0;").due("wills(1, 1)", 0).due("raft(1, 0)", 1).due("wills(1, 0)", 1).due("raft(1, 0)", 0);
    }

    @Says("CODICIL: NEXT of a RAFT that is not GONE becomes another RAFT (or itself).")
    static void nextMayBeGone() {
        Run x = Run.town("r0;r0;a0 0 1 1 1;").does("dies(1)").due("wills(0, 1)", 0).due("raft(0, 0)", 1);
        x.does("dies(0)").due("anchor(0, 8)", Run.NONE);
    }

    @Says("BAD; STATE: it is GONE, it is so.")
    static void oneThatIsGone() {
        Run.town("r0;r0;r0;").does("dies(1)").stays(Run.STATE, "wills(1, 2)", "wills(1, 1)", "wills(1, 0)").due("raft(1, 0)", 0);
    }

    @Says("BAD; STATE: it is GONE, it is so.")
    static void nextThatIsSo() {
        Run x = Run.town("r0;r0;").stays(Run.STATE, "wills(0, 0)", "wills(1, 0)").due("wills(1, 1)", 0);
        x.stays(Run.STATE, "wills(1, 1)").due("wills(1, 0)", 1);
    }

    @Says("there is no such thing")
    static void theFirstAndTheLastRaft() {
        Run.town("r0;r0;").stays(Run.BAD, "wills(-1, 0)", "wills(2, 0)", "wills(6, 0)", "wills(2147483647, 0)");
        Run.town("r0;r0;").stays(Run.BAD, "wills(0, -1)", "wills(0, 2)", "wills(0, 6)", "wills(0, 2147483647)", "wills(2, 2)");
        new Run().stays(Run.BAD, "wills(0, 0)");
    }

    @Says("the first of these: BAD (a number is not as told, or there is no such thing), STATE (as told), FULL.")
    static void badIsAheadOfState() {
        Run.town("r0;r0;").does("dies(1)").stays(Run.BAD, "wills(1, 2)", "wills(1, -1)", "wills(2, 1)", "wills(-1, -1)");
    }
}
