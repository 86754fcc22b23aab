/** Promise 30: trace. */
public final class P30TraceTest {
    private static final String TOWN = "r0;a0 4 3 10 20;a0 5 1 6 30;";

    public static void main(String[] args) {
        Check.all(P30TraceTest.class);
    }

    @Says({"(numbers in brackets come to THE TRACE (0 at first; of all calls ever, together) as often as mark() asks that body;",
        "\"up\" is what the KIND above does, asked once"})
    static void theBodiesOfEachKind() {
        long[] leaves = {1, 11, 101, 1011, 10101, 100001};
        for (int kind = 0; kind < 6; kind++) {
            Run.town(TOWN).does("mark(" + kind + ", 0)").due("trace()", leaves[kind]);
        }
    }

    @Says({"(0 at first; of all calls ever, together)", "THE TRACE."})
    static void ofAllCallsTogether() {
        Run x = Run.town(TOWN).due("trace()", 0).does("mark(0, 0)").due("trace()", 1).does("mark(0, 0)").due("trace()", 2);
        x.does("mark(4, 1)", "mark(3, 0)").due("trace()", 2 + 10101 + 1011).does(300, "mark(5, 1)");
        x.due("trace()", 2 + 10101 + 1011 + 300 * 100001L);
    }

    @Says("as often as mark() asks that body")
    static void noOtherCallAddsToIt() {
        Run x = Run.town(TOWN).does("needs(0, 9)", "after(0, 9, 1)", "wreck(9, 4, 0)", "place(3, 1, 0)", "vital(0, 9)");
        x.does("odds(0, 9, 4, 0)", "fits()", "ask()", "anchor(0, 7)", "raft(0, 5)", "storms(9, 0)", "year()").due("trace()", 0);
        x.stays(0, "trace()");
    }

    @Says("Refused, and nothing changes")
    static void aRefusedMarkLeavesNothing() {
        Run.town(TOWN).does("mark(6, 0)", "mark(-1, 0)", "mark(0, 2)", "mark(5, -1)").due("trace()", 0);
        Run.town(TOWN).does("mark(3, 1)", "mark(3, 2)").due("trace()", 1011);
    }

    @Says({"THE TRACE stays.", "nothing else"})
    static void itStays() {
        Run x = Run.town(TOWN).does("mark(1, 0)", "keep(0)", "year()", "mark(1, 0)", "undo()", "back(0)").due("trace()", 22);
        x.reads("r0;").due("trace()", 22).due("town()", 0).due("trace()", 22).types("x").due("town()", -10).due("trace()", 22);
    }
}
