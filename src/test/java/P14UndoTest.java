/** Promise 14: undo. */
public final class P14UndoTest {
    private static final String TOWN = "r0;r0;a0 5 3 20 50;a1 9 1 3 20;";

    public static void main(String[] args) {
        Check.all(P14UndoTest.class);
    }

    @Says("UNDONE: how many more may be. STATE: none.")
    static void howManyMoreMayBe() {
        Run x = Run.town(TOWN).stays(Run.STATE, "undo()").does("year()", "year()", "year()");
        x.due("undo()", 2).due("undo()", 1).due("undo()", 0).stays(Run.STATE, "undo()").due("anchor(0, 5)", 0);
    }

    @Says("UNDONE: the latest STORM, PAID, DEAD, CODICIL, YEAR, HAULED")
    static void eachDeedIsUndone() {
        Run x = Run.town(TOWN).does("storms(99, 1)", "pays(0, 3)", "dies(0)", "wills(1, 1)", "year()");
        x.does("storms(99, 0)").due("hauls(1, 1)", Run.STATE).does("dies(1)").due("count(4)", 7);
        x.due("undo()", 6).due("now(3)", 1).due("undo()", 5).due("anchor(0, 1)", 6).due("undo()", 4).due("anchor(0, 5)", 0);
        x.due("undo()", 3).due("raft(1, 0)", 0).due("undo()", 2).due("now(3)", 0).due("undo()", 1).due("anchor(0, 3)", 20);
        x.due("undo()", 0).due("anchor(0, 1)", 5).due("anchor(1, 1)", 9).due("now(0)", 3).due("now(2)", 0);
    }

    @Says("UNDONE: the latest STORM, PAID, DEAD, CODICIL, YEAR, HAULED")
    static void aHaulIsUndone() {
        Run x = Run.town(TOWN).does("hauls(0, 0)").due("now(4)", 50).due("undo()", 0).due("now(4)", 0).due("now(1)", 0);
        x.due("now(0)", 3).due("hauls(0, 0)", 50);
    }

    @Says("(10 are known, older ones are lost)")
    static void tenAreKnown() {
        Run x = Run.town(TOWN);
        for (int i = 1; i <= 10; i++) {
            x.due("pays(0, 1)", 20 + i).due("count(4)", i);
        }
        for (int i = 9; i >= 0; i--) {
            x.due("undo()", i).due("anchor(0, 3)", 20 + i);
        }
        x.stays(Run.STATE, "undo()").due("anchor(0, 3)", 20);
    }

    @Says("(10 are known, older ones are lost)")
    static void theEleventhAgoIsLost() {
        Run x = Run.town(TOWN).does("wills(0, 1)").does(10, "pays(0, 1)").due("count(4)", 10);
        for (int i = 9; i >= 0; i--) {
            x.due("undo()", i).due("anchor(0, 3)", 20 + i).due("raft(0, 0)", 1);
        }
        x.due("undo()", Run.STATE).due("raft(0, 0)", 1).due("anchor(0, 3)", 20);
    }

    @Says("(10 are known, older ones are lost)")
    static void manyMoreThanTen() {
        Run x = Run.town(TOWN).does(35, "year()").due("undo()", 9).due("anchor(0, 5)", 34).does(3, "year()").due("count(4)", 10);
        x.does(9, "undo()").due("anchor(0, 5)", 28).due("undo()", 0).due("anchor(0, 5)", 27).due("undo()", Run.STATE);
        x.due("year()", 56).due("undo()", 0).due("anchor(0, 5)", 27);
    }

    @Says("all is as ahead of it")
    static void allOfSixRaftsAndEightAnchors() {
        StringBuilder text = new StringBuilder("r0;r0;r1;r2;r3;r4;");
        for (int a = 0; a < 8; a++) {
            text.append("a").append(a % 6).append(" ").append(a + 1).append(" 1 ").append(20 + a).append(" ").append(50 + a).append(";");
        }
        Run x = Run.town(text.toString()).does("wills(0, 5)", "wills(5, 1)", "hauls(1, 7)", "hauls(0, 0)", "hauls(5, 5)");
        x.does("dies(5)", "year()", "storms(7, 1)", "pays(6, 9)", "pays(1, -9)");
        x.row("raft(*, 0)", 5, 0, 1, 2, 3, 1).row("raft(*, 1)", 0, 0, 0, 0, 0, 1).row("raft(*, 2)", 50, 57, 0, 0, 0, 55);
        x.row("anchor(*, 1)", 1, 2, 3, 4, 5, 6, 7, 8).row("anchor(*, 3)", 20, 12, 22, 23, 24, 25, 35, 27);
        x.row("anchor(*, 5)", 0, 1, 1, 1, 1, 0, 1, 0).row("anchor(*, 6)", 1, 0, 0, 0, 0, 1, 0, 1).does(10, "undo()");
        x.row("raft(*, 0)", 0, 0, 1, 2, 3, 4).row("raft(*, 1)", 0, 0, 0, 0, 0, 0).row("raft(*, 2)", 0, 0, 0, 0, 0, 0);
        x.row("anchor(*, 1)", 1, 2, 3, 4, 5, 6, 7, 8).row("anchor(*, 3)", 20, 21, 22, 23, 24, 25, 26, 27);
        x.row("anchor(*, 5)", 0, 0, 0, 0, 0, 0, 0, 0).row("anchor(*, 6)", 0, 0, 0, 0, 0, 0, 0, 0);
    }

    @Says("all is as ahead of it")
    static void behindUndoneAnotherIsDone() {
        Run x = Run.town(TOWN).does("pays(0, 1)", "pays(0, 2)", "undo()", "pays(0, 3)").due("anchor(0, 3)", 24);
        x.due("undo()", 1).due("anchor(0, 3)", 21).due("undo()", 0).due("anchor(0, 3)", 20);
    }

    @Says({"Refused, and nothing changes", "10 are known"})
    static void whatIsRefusedIsNotKnown() {
        Run x = Run.town(TOWN).does("wills(0, 1)").does(9, "pays(0, 1)").due("count(4)", 10);
        x.stays(Run.BAD, "storms(0, 0)", "pays(0, 0)", "dies(2)", "wills(0, 2)", "hauls(2, 0)");
        x.stays(Run.STATE, "wills(0, 1)", "hauls(1, 0)").does(10, "undo()").due("raft(0, 0)", 0).due("count(4)", 0);
        Run.town(TOWN).does("dies(1)").stays(Run.STATE, "dies(1)", "wills(1, 1)", "hauls(1, 1)").due("count(4)", 1);
    }

    @Says("UNDONE: the latest STORM, PAID, DEAD, CODICIL, YEAR, HAULED")
    static void nothingElseIsUndone() {
        Run x = Run.town(TOWN).does("year()", "hears(9, 1)", "keep(0)", "mark(0, 0)", "type(99)", "back(0)");
        x.does("needs(0, 1)", "after(0, 99, 1)", "wreck(9, 4, 0)", "place(1, 1, 0)", "fits()", "ask()").due("count(4)", 1);
        x.due("undo()", 0).due("count(3)", 1).due("count(5)", 1).due("trace()", 1).due("back(0)", 3).due("anchor(0, 5)", 1);
    }
}
