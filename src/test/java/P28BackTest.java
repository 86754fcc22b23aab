/** Promise 28: back. */
public final class P28BackTest {
    private static final String TOWN = "r0;r0;a0 4 3 10 20;a1 9 1 6 30;a1 5 1 6 7;";

    public static void main(String[] args) {
        Check.all(P28BackTest.class);
    }

    @Says({"IMAGES 0, 1 keep NOW (CELLS of ANCHORS, LINKS, AGES, what LIES, is UP, LOST, GONE, NEXT, WEALTH, what may be UNDONE)",
        "All of that becomes as an IMAGE has it: what LIES (bits)."})
    static void allOfThatBecomesAsTheImageHasIt() {
        Run x = Run.town(TOWN).due("keep(1)", 7).does("storms(99, 1)", "pays(0, 9)", "year()", "hauls(1, 2)", "wills(0, 1)", "dies(0)");
        x.due("keep(0)", 1).due("back(1)", 7);
        x.row("anchor(0, *)", 0, 4, 3, 10, 20, 0, 0, 9, 0).row("anchor(1, *)", 1, 9, 1, 6, 30, 0, 0, 4, 1);
        x.row("anchor(2, *)", 1, 5, 1, 6, 7, 0, 0, 4, 1).row("raft(0, *)", 0, 0, 0).row("raft(1, *)", 0, 0, 0).due("count(4)", 0);
        x.due("back(0)", 1).row("anchor(0, *)", 0, 5, 3, 19, 20, 1, 0, 12, 1).row("anchor(1, *)", 1, 9, 1, 6, 30, 0, 2, -9, 1);
        x.row("anchor(2, *)", 1, 6, 1, 6, 7, 1, 1, -9, 1).row("raft(0, *)", 1, 1, 0).row("raft(1, *)", 0, 0, 6);
        x.row("now(*)", 1, 4, 2, 1, 6).due("count(4)", 6);
    }

    @Says("what may be UNDONE")
    static void whatMayBeUndone() {
        Run x = Run.town(TOWN).does("wills(0, 1)").does(10, "pays(0, 1)").does("keep(0)").does(7, "undo()").does(3, "year()");
        x.due("count(4)", 6).due("back(0)", 7).due("count(4)", 10).does(7, "undo()").does(9, "year()").due("back(0)", 7);
        for (int i = 9; i >= 0; i--) {
            x.due("undo()", i).due("anchor(0, 3)", 10 + i).due("anchor(0, 5)", 0);
        }
        x.due("undo()", Run.STATE).due("raft(0, 0)", 1).due("back(0)", 7).due("count(4)", 10).due("anchor(0, 3)", 20);
    }

    @Says("what may be UNDONE")
    static void backItselfIsNotUndone() {
        Run x = Run.town(TOWN).does("keep(0)", "year()", "year()").due("back(0)", 7).due("count(4)", 0).due("undo()", Run.STATE);
        x.does("keep(1)", "year()", "keep(0)", "back(1)").due("count(4)", 0).does("back(0)").due("undo()", 0).due("anchor(0, 5)", 0);
    }

    @Says("nothing else")
    static void whatWasHeardIsNotKept() {
        Run x = Run.town(TOWN).does("hears(3, 1)", "keep(0)", "hears(99, 0)").due("back(0)", 7).due("count(3)", 2);
        x.does("forget()").due("back(0)", 7).due("count(3)", 0).due("fits()", 7);
    }

    @Says("nothing else")
    static void theTextIsNotKept() {
        Run x = Run.town(TOWN).types("r").does("keep(0)").types("0;").due("back(0)", 7).due("count(5)", 3);
        x.does("clear()").due("back(0)", 7).due("count(5)", 0);
    }

    @Says("nothing else")
    static void theTraceIsNotKept() {
        Run.town(TOWN).does("mark(0, 0)", "keep(0)", "mark(1, 0)").due("back(0)", 7).due("trace()", 12).does("back(0)").due("trace()", 12);
    }

    @Says("nothing else")
    static void theOtherImageIsNotKept() {
        Run x = Run.town(TOWN).does("keep(0)", "year()", "keep(1)", "year()", "back(0)", "back(1)").due("anchor(0, 5)", 1);
        x.does("back(0)").due("anchor(0, 5)", 0).does("pays(0, 1)", "back(1)").due("anchor(0, 3)", 10).due("anchor(0, 5)", 1);
    }

    @Says("BAD; STATE: none was kept.")
    static void noneWasKept() {
        Run.town(TOWN).does("year()").stays(Run.STATE, "back(0)", "back(1)").due("count(4)", 1);
        Run.town(TOWN).does("keep(0)", "year()").stays(Run.STATE, "back(1)").due("back(0)", 7);
        Run.town(TOWN).does("keep(1)", "year()").stays(Run.STATE, "back(0)").due("back(1)", 7);
    }

    @Says("the first of these: BAD (a number is not as told, or there is no such thing), STATE (as told), FULL.")
    static void images0And1AndBadAheadOfState() {
        Run.town(TOWN).stays(Run.BAD, "back(-1)", "back(2)", "back(2147483647)", "back(-2147483648)");
        Run.town(TOWN).does("keep(0)", "keep(1)", "year()").stays(Run.BAD, "back(-1)", "back(2)");
    }

    @Says("-10 less FAULT: nothing changes (THE TEXT, too, stays).")
    static void aFaultLeavesTheImages() {
        Run.town(TOWN).does("keep(0)", "year()").types("r0;x").due("town()", -13).due("back(0)", 7).due("anchor(0, 5)", 0);
    }

    @Says("IMAGES are gone")
    static void readAnewNoneIsKept() {
        Run.town(TOWN).does("keep(0)", "keep(1)").reads(TOWN).stays(Run.STATE, "back(0)", "back(1)");
    }
}
