/** Promise 13: hauls. */
public final class P13HaulsTest {
    /** Anchors 0 to 3 lie in cell 1, 4 lies alone. */
    private static final String TOWN = "r0;r0;r2;a0 1 1 1 40;a1 1 1 1 20;a2 1 1 1 10;a0 1 1 1 3;a0 5 1 1 6;";

    public static void main(String[] args) {
        Check.all(P13HaulsTest.class);
    }

    @Says({"HAULED: WEALTH then.", "it is UP; WEALTH is more by WORTH less AGE"})
    static void wealthThen() {
        Run x = Run.town("r0;r0;a0 1 1 1 40;a0 2 1 1 9;a1 2 1 1 5;").due("hauls(0, 0)", 40).does("year()", "storms(9, 0)");
        x.due("hauls(1, 2)", Run.STATE).due("undo()", 2).due("anchor(0, 6)", 1).due("anchor(0, 1)", 1).due("raft(0, 2)", 40);
        x.does("dies(1)").due("hauls(0, 1)", 48).due("raft(1, 2)", 0).due("now(4)", 48).due("now(1)", 3);
    }

    @Says("WEALTH is more by WORTH less AGE, 0 at least (9999 at most)")
    static void worthLessAgeIs0AtLeast() {
        Run x = Run.town("r0;a0 1 1 1 0;a0 2 1 1 1;a0 3 1 1 2;a0 4 1 1 3;").does("year()", "year()");
        x.due("hauls(0, 3)", 1).due("hauls(0, 2)", 1).due("hauls(0, 1)", 1).due("hauls(0, 0)", 1).due("raft(0, 2)", 1);
    }

    @Says("HAULED by a RAFT: an ANCHOR that LIES and is its own by WHOSE,")
    static void oneThatDoesNotLie() {
        Run.town(TOWN).due("hauls(0, 4)", 6).stays(Run.STATE, "hauls(0, 4)").due("raft(0, 2)", 6);
        Run.town("r0;a0 0 1 1 9;").due("storms(9, 0)", 1).stays(Run.STATE, "hauls(0, 0)").due("raft(0, 2)", 0);
    }

    @Says("an ANCHOR that LIES and is its own by WHOSE")
    static void oneThatIsNotTheRafts() {
        Run.town(TOWN).stays(Run.STATE, "hauls(1, 4)", "hauls(2, 4)").due("hauls(0, 4)", 6);
        Run x = Run.town("r0;r0;r0;a1 4 1 1 9;").stays(Run.STATE, "hauls(0, 0)").does("dies(1)");
        x.stays(Run.STATE, "hauls(1, 0)", "hauls(2, 0)").due("hauls(0, 0)", 9).due("raft(0, 2)", 9).due("raft(1, 2)", 0);
    }

    @Says("an ANCHOR that LIES and is its own by WHOSE")
    static void oneThatIsNobodys() {
        Run.town("r0;r1;a0 4 1 1 9;").does("dies(0)").due("anchor(0, 8)", Run.NONE).stays(Run.STATE, "hauls(0, 0)", "hauls(1, 0)");
    }

    @Says("if no one that LIES in that CELL is another RAFT's by WHOSE")
    static void whereAnothersLies() {
        Run x = Run.town(TOWN).stays(Run.STATE, "hauls(0, 0)", "hauls(0, 3)", "hauls(1, 1)", "hauls(2, 2)");
        x.does("dies(1)").stays(Run.STATE, "hauls(0, 0)", "hauls(0, 1)");
    }

    @Says("if no one that LIES in that CELL is another RAFT's by WHOSE")
    static void whereTheFirstOrTheLastIsAnothers() {
        Run.town("r0;r0;a1 1 1 1 5;a0 1 1 1 6;").stays(Run.STATE, "hauls(0, 1)", "hauls(1, 0)");
        Run x = Run.town("r0;r0;" + "a0 3 1 1 2;".repeat(7) + "a1 3 1 1 3;").stays(Run.STATE, "hauls(0, 0)", "hauls(0, 6)");
        x.stays(Run.STATE, "hauls(1, 7)").does("dies(1)").due("hauls(0, 0)", 2).due("hauls(0, 7)", 5);
    }

    @Says("(NONE's may be)")
    static void whereNobodysLies() {
        Run x = Run.town(TOWN).does("dies(1)", "dies(2)").due("anchor(2, 8)", Run.NONE).due("anchor(1, 8)", 0);
        x.due("hauls(0, 0)", 40).due("hauls(0, 1)", 60).due("hauls(0, 3)", 63).due("cell(1, 2)", 4);
    }

    @Says("if no one that LIES in that CELL is another RAFT's by WHOSE")
    static void whereOnlyItsOwnLie() {
        Run.town("r0;r0;a0 1 1 1 5;a0 1 1 1 6;a1 2 1 1 7;").due("hauls(0, 0)", 5).due("hauls(0, 1)", 11).due("hauls(1, 2)", 7);
    }

    @Says("if no one that LIES in that CELL is another RAFT's by WHOSE")
    static void whereAnothersDidLie() {
        Run x = Run.town("r0;r0;a0 8 1 1 5;a1 9 1 1 6;").due("storms(9, 1)", 1).due("anchor(1, 1)", 9).due("anchor(0, 1)", 9);
        x.due("hauls(0, 0)", 5);
        Run y = Run.town("r0;r0;a0 8 1 9 5;a1 9 1 9 6;").due("hauls(1, 1)", 6).does("storms(6, 1)").due("anchor(0, 1)", 9);
        y.due("hauls(0, 0)", 5);
    }

    @Says("there is no such thing")
    static void theFirstAndTheLastOfBoth() {
        Run.town(TOWN).stays(Run.BAD, "hauls(-1, 4)", "hauls(3, 4)", "hauls(6, 4)", "hauls(2147483647, 4)");
        Run.town(TOWN).stays(Run.BAD, "hauls(0, -1)", "hauls(0, 5)", "hauls(0, 8)", "hauls(0, 2147483647)", "hauls(-9, 4)");
    }

    @Says("the first of these: BAD (a number is not as told, or there is no such thing), STATE (as told), FULL.")
    static void badIsAheadOfState() {
        Run.town(TOWN).does("hauls(0, 4)").stays(Run.BAD, "hauls(3, 4)", "hauls(-1, 4)", "hauls(-9, 4)", "hauls(3, 0)");
        Run.town("r0;a0 4 1 1 9;").does("dies(0)").stays(Run.BAD, "hauls(-9, 0)", "hauls(1, 0)", "hauls(0, 1)");
    }

    @Says("BAD; STATE: it does not LIE, is not the RAFT's, another one's LIES there, too.")
    static void eachStateAloneAndNone() {
        Run.town("r0;r0;a0 1 1 1 9;").does("storms(9, 1)").due("hauls(0, 0)", 9).stays(Run.STATE, "hauls(0, 0)");
        Run.town("r0;r0;a0 1 1 1 9;a1 2 1 1 8;").stays(Run.STATE, "hauls(1, 0)", "hauls(0, 1)").due("hauls(1, 1)", 8);
        Run.town("r0;r0;a0 1 1 1 9;a1 2 9 1 8;").due("hauls(0, 0)", 9).due("undo()", 0).does("storms(9, 1)")
            .due("cell(2, 2)", 3).stays(Run.STATE, "hauls(0, 0)", "hauls(1, 1)");
    }
}
