/** Promise 1: a new object. */
public final class P01NewObjectTest {
    public static void main(String[] args) {
        Check.all(P01NewObjectTest.class);
    }

    @Says("As told; no RAFTS, no ANCHORS.")
    static void noRaftsNoAnchors() {
        Run x = new Run().row("count(*)", 0, 0, 0, 0, 0, 0).row("now(*)", 0, 0, 0, 0, 0);
        x.due("raft(0, 0)", Run.BAD).due("anchor(0, 0)", Run.BAD).due("mark(0, 0)", Run.NO);
        x.due("dies(0)", Run.BAD).due("wills(0, 0)", Run.BAD).due("hauls(0, 0)", Run.BAD).due("pays(0, 1)", Run.BAD);
        x.due("needs(0, 1)", Run.BAD).due("after(0, 1, 0)", Run.BAD).due("place(0, 1, 0)", Run.BAD);
        x.due("place(1, 1, 0)", Run.BAD).due("vital(0, 1)", Run.BAD).due("odds(0, 1, 1, 0)", Run.BAD);
    }

    @Says({"DEEP (1 .. 9; 3 at first)", "GRIP (0 .. 3; 1 at first)"})
    static void everyCellIsThreeDeepAndGripsOne() {
        Run x = new Run();
        for (int cell = 0; cell < 10; cell++) {
            x.row("cell(" + cell + ", *)", 3, 1, 0);
        }
    }

    @Says("THE TRACE (0 at first")
    static void traceIsNothing() {
        new Run().due("trace()", 0);
    }

    @Says({"STATE: none.", "STATE: none was kept."})
    static void nothingIsKnownOrKept() {
        new Run().due("undo()", Run.STATE).due("back(0)", Run.STATE).due("back(1)", Run.STATE);
        new Run().due("forget()", 0).due("clear()", 0);
    }

    @Says("ITEMS (none, too)")
    static void callsOnATownOfNone() {
        new Run().due("year()", 0).due("storms(99, 1)", 0).due("count(4)", 2).due("undo()", 1).due("undo()", 0);
        new Run().due("fits()", 0).due("ask()", Run.NONE).due("wreck(99, 4, 0)", 0).due("wreck(99, 4, 1)", 0);
        new Run().due("hears(1, 1)", 1).due("fits()", 0).due("keep(0)", 0).due("back(0)", 0).due("town()", 0);
    }

    @Says("of all calls ever, together")
    static void objectsHaveNothingInCommon() {
        Run x = Run.town("c3 1 1;r0;a0 0 1 1 1;").does("mark(5, 0)", "hears(1, 1)", "keep(0)", "type(1)");
        Run y = new Run();
        x.due("trace()", 100001).due("count(1)", 1).due("count(3)", 1).due("count(5)", 1).due("cell(3, 0)", 1);
        y.due("trace()", 0).due("count(1)", 0).due("count(3)", 0).due("count(5)", 0).due("cell(3, 0)", 3);
        y.due("back(0)", Run.STATE);
    }

    @Says("An object is used for at most 512 calls after it has been made; what later calls answer is free.")
    static void the512thCallAnswers() {
        new Run().does(511, "year()").due("undo()", 9);
        new Run().does(511, "type(32)").due("clear()", 200);
        Run x = Run.town("r0;a0 0 1 1 9;").does(512 - 1 - 16, "mark(5, 0)");
        x.due("trace()", 495 * 100001L);
    }
}
