/** Promise 6: raft. */
public final class P06RaftTest {
    /** Strengths: 9 * 2 + 1, 2 * 2 + 2, 5 * 2 + 0, 1 * 2 + 20. */
    private static final String TOWN = "r0;r0;r2;r1;a0 1 9 3 30;a1 2 2 6 20;a2 3 5 2 10;a3 4 1 60 7;t0 3;t3 1;";

    public static void main(String[] args) {
        Check.all(P06RaftTest.class);
    }

    @Says("Of a RAFT: 0 NEXT, 1 whether it is GONE (1, 0), 2 WEALTH, 3 ESTATE, 4 its TOWN (bits), 5 MIGHT of that.")
    static void whatItIs() {
        Run x = Run.town(TOWN);
        x.row("raft(0, *)", 0, 0, 0, 30, 0b1011, 19 + 6 + 22).row("raft(1, *)", 0, 0, 0, 20, 0b1011, 47);
        x.row("raft(2, *)", 2, 0, 0, 10, 0b100, 10).row("raft(3, *)", 1, 0, 0, 7, 0b1011, 47);
    }

    @Says("there is no such thing")
    static void theFirstAndTheLastRaft() {
        Run.town(TOWN).stays(Run.BAD, "raft(-1, 0)", "raft(4, 0)", "raft(5, 1)", "raft(6, 2)", "raft(2147483647, 3)");
        Run.town(TOWN).stays(Run.BAD, "raft(-2147483648, 4)", "raft(4, 4)", "raft(4, 5)");
        Run.town("r0;").stays(Run.BAD, "raft(1, 0)").row("raft(0, *)", 0, 0, 0, 0, 1, 0);
    }

    @Says("4 its TOWN (bits), 5 MIGHT of that. BAD.")
    static void whatFrom0To5() {
        Run.town(TOWN).stays(Run.BAD, "raft(0, -1)", "raft(0, 6)", "raft(3, 6)", "raft(0, 2147483647)", "raft(0, -2147483648)");
    }

    @Says("1 whether it is GONE (1, 0)")
    static void whetherItIsGone() {
        Run.town(TOWN).does("dies(3)").due("raft(3, 1)", 1).due("raft(0, 1)", 0).does("undo()").due("raft(3, 1)", 0);
    }

    @Says("ESTATE of a RAFT: WORTH less AGE (0 at least each)")
    static void estateIs0AtLeastEach() {
        Run x = Run.town("r0;a0 1 1 1 2;a0 2 1 1 1;a0 3 1 1 0;a0 4 1 1 4;").due("raft(0, 3)", 7);
        x.does("year()").due("raft(0, 3)", 1 + 0 + 0 + 3).does("year()").due("raft(0, 3)", 2);
        x.does("year()").due("raft(0, 3)", 1).does("year()").due("raft(0, 3)", 0).does("year()").due("raft(0, 3)", 0);
    }

    @Says("of all that LIE and are its own by WHOSE, together")
    static void estateIsOfAllThatLieAndAreItsOwn() {
        Run x = Run.town(TOWN).does("dies(3)").due("raft(3, 3)", 0).due("raft(1, 3)", 27).does("dies(1)");
        x.due("raft(0, 3)", 57).due("raft(1, 3)", 0).does("hauls(0, 1)").due("raft(0, 3)", 37).due("raft(0, 2)", 20);
        Run.town("r0;a0 9 1 1 50;a0 0 1 1 9;").does("storms(99, 1)").due("raft(0, 3)", 9);
    }

    @Says("TOWN of a RAFT: RAFTS (bits) that are roped to it, over others, too, it itself")
    static void townOverOthers() {
        Run x = Run.town("r0;r0;r0;r0;r0;r0;t0 5;t5 1;t1 4;t4 2;t2 3;");
        for (int r = 0; r < 6; r++) {
            x.due("raft(" + r + ", 4)", 63);
        }
        Run.town("r0;r0;r0;r0;r0;r0;t5 4;t4 3;t1 0;").row("raft(0, *)", 0, 0, 0, 0, 3).due("raft(2, 4)", 4)
            .due("raft(3, 4)", 56).due("raft(4, 4)", 56).due("raft(5, 4)", 56).due("raft(1, 4)", 3);
    }

    @Says("RAFTS (bits) that are roped to it, over others, too, it itself")
    static void townIsItItselfWithoutRopes() {
        Run.town("r0;r0;r1;").due("raft(0, 4)", 1).due("raft(1, 4)", 2).due("raft(2, 4)", 4);
    }

    @Says("RAFTS (bits) that are roped to it, over others, too, it itself")
    static void townGoesOverThoseGone() {
        Run x = Run.town("r0;r0;r0;t0 1;t1 2;").does("dies(1)").due("raft(0, 4)", 7).due("raft(1, 4)", 7).does("dies(0)");
        x.due("raft(0, 4)", 7).due("raft(2, 4)", 7);
    }

    @Says("STRENGTHS of all ANCHORS that LIE and of which OWNER (GONE or not) is of it, together")
    static void mightIsByOwnerGoneOrNot() {
        Run x = Run.town("r0;r0;r0;a0 1 1 3 1;a1 2 2 3 1;a2 3 4 3 1;t0 1;").due("raft(0, 5)", 3 + 5).due("raft(2, 5)", 9);
        x.does("wills(1, 2)", "dies(1)").due("anchor(1, 8)", 2).due("raft(0, 5)", 8).due("raft(2, 5)", 9);
        x.does("hauls(2, 1)").due("raft(0, 5)", 3).due("raft(1, 5)", 3);
    }

    @Says("STRENGTHS of all ANCHORS that LIE")
    static void mightIsOfThoseThatLieAndNotOfHolds() {
        Run x = Run.town("r0;r0;a0 9 1 3 1;a0 9 2 3 1;a1 9 3 3 1;a0 5 5 3 1;").due("raft(0, 5)", 3 + 5 + 11);
        x.does("storms(99, 1)").due("raft(0, 5)", 11).due("raft(1, 5)", 0);
    }

    @Says("is more by WORTH less AGE, 0 at least (9999 at most)")
    static void wealthOfAllAnchorsThereCanBe() {
        Run x = Run.town("r0;" + "a0 0 1 1 99;".repeat(8));
        for (int a = 0; a < 8; a++) {
            x.due("hauls(0, " + a + ")", 99 * (a + 1));
        }
        x.due("raft(0, 2)", 792).due("now(4)", 792);
    }

    @Says("RAFTS 0 .. (6 at most): NEXT (a RAFT; itself: none).")
    static void nextIsARaftOrItselfForNone() {
        Run x = Run.town("r0;r1;r1;a0 1 1 1 1;a1 2 1 1 2;a2 3 1 1 4;").row("raft(*, 0)", 0, 1, 1).row("raft(*, 3)", 1, 2, 4);
        x.does("dies(2)").row("raft(*, 3)", 1, 6, 0).does("dies(1)").row("raft(*, 3)", 1, 0, 0);
        x.row("anchor(*, 8)", 0, Run.NONE, Run.NONE).row("raft(*, 0)", 0, 1, 1);
    }
}
