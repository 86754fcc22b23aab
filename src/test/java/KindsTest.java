/** Anchors by kinds, images, the trace: promises 26 to 30. */
public final class KindsTest {
    private static final String TOWN = "c4 2 2;r0;r0;a0 4 3 10 20;a1 5 1 6 30;";

    public static void main(String[] args) {
        marks();
        trace();
        marksOfTheLost();
        images();
        imagesKeepUndo();
        imagesKeepNothingElse();
        Check.end();
    }

    /** Strengths: 9 + 5, 2 + 2. */
    private static void marks() {
        AnchorWills x = Check.town(TOWN);
        x.year();
        x.year();
        int[][] want = {{14, 34, 12, 68, 12, 14}, {4, 34, 2, 68, 3, 4}};
        for (int kind = 0; kind < 6; kind++) {
            Check.due("mark(" + kind + ", 0)", x.mark(kind, 0), want[0][kind]);
            Check.due("mark(" + kind + ", 1)", x.mark(kind, 1), want[1][kind]);
        }
        Check.due("mark(-1, 0)", x.mark(-1, 0), -1000000);
        Check.due("mark(6, 0)", x.mark(6, 0), -1000000);
        Check.due("mark(0, 2)", x.mark(0, 2), -1000000);
        Check.due("mark(0, -1)", x.mark(0, -1), -1000000);
        for (int i = 0; i < 8; i++) {
            x.year();
        }
        Check.due("mark(2, 1) below 0", x.mark(2, 1), -6);
        Check.due("mark(4, 1) below 0", x.mark(4, 1), -5);
        x.wills(1, 0);
        x.dies(1);
        x.hauls(0, 1);
        Check.due("mark(5, 1) by its owner", x.mark(5, 1), 4);
        Check.due("mark(5, 0) by its owner", x.mark(5, 0), 14 + 20);
    }

    private static void trace() {
        AnchorWills x = Check.town(TOWN);
        long[] leaves = {1, 11, 101, 1011, 10101, 100001};
        long all = 0;
        for (int kind = 0; kind < 6; kind++) {
            x.mark(kind, kind % 2);
            all += leaves[kind];
            Check.due("trace()", x.trace(), all);
        }
        x.mark(6, 0);
        x.mark(0, 2);
        x.keep(0);
        x.mark(0, 0);
        x.back(0);
        x.undo();
        Check.due("trace()", x.trace(), all + 1);
        x.town();
        Check.due("trace() in another town", x.trace(), all + 1);
        Check.due("trace() of another object", new AnchorWills().trace(), 0);
    }

    private static void marksOfTheLost() {
        AnchorWills x = Check.town("c0 1 3;c1 9 0;r0;a0 1 1 9 5;a0 0 1 9 5;");
        x.storms(5, 0);
        Check.due("mark(0, 0)", x.mark(0, 0), 13);
        x.hauls(0, 1);
        Check.due("mark(0, 1) of one up", x.mark(0, 1), 13);
        x.storms(99, 0);
        Check.due("now(2)", x.now(2), 1);
        Check.due("mark(0, 0) of one lost", x.mark(0, 0), 13);
        Check.due("mark(5, 0) of one lost", x.mark(5, 0), 18);
    }

    private static void images() {
        AnchorWills x = Check.town(TOWN);
        Check.due("keep(2)", x.keep(2), -1);
        Check.due("keep(-1)", x.keep(-1), -1);
        Check.due("back(2)", x.back(2), -1);
        Check.due("back(-1)", x.back(-1), -1);
        Check.due("back(1)", x.back(1), -2);
        Check.due("keep(1)", x.keep(1), 3);
        Check.due("back(0)", x.back(0), -2);
        x.storms(99, 1);
        x.pays(0, 9);
        x.year();
        x.hauls(0, 0);
        x.wills(0, 1);
        x.dies(0);
        Check.due("keep(0)", x.keep(0), 2);
        Check.due("back(1)", x.back(1), 3);
        Check.due("anchor(0, 1)", x.anchor(0, 1), 4);
        Check.due("anchor(0, 3)", x.anchor(0, 3), 10);
        Check.due("anchor(0, 5)", x.anchor(0, 5), 0);
        Check.due("anchor(0, 6)", x.anchor(0, 6), 0);
        Check.due("raft(0, 0)", x.raft(0, 0), 0);
        Check.due("raft(0, 1)", x.raft(0, 1), 0);
        Check.due("raft(0, 2)", x.raft(0, 2), 0);
        Check.due("back(0)", x.back(0), 2);
        Check.due("anchor(0, 1)", x.anchor(0, 1), 5);
        Check.due("anchor(0, 3)", x.anchor(0, 3), 19);
        Check.due("anchor(1, 5)", x.anchor(1, 5), 1);
        Check.due("anchor(0, 6)", x.anchor(0, 6), 1);
        Check.due("raft(0, 0)", x.raft(0, 0), 1);
        Check.due("raft(0, 1)", x.raft(0, 1), 1);
        Check.due("raft(0, 2)", x.raft(0, 2), 19);
        Check.due("back(1) once more", x.back(1), 3);
        x.year();
        Check.due("keep(1) anew", x.keep(1), 3);
        x.undo();
        Check.due("back(1)", x.back(1), 3);
        Check.due("anchor(0, 5)", x.anchor(0, 5), 1);
    }

    private static void imagesKeepUndo() {
        AnchorWills x = Check.town(TOWN);
        for (int i = 0; i < 11; i++) {
            x.pays(0, 1);
        }
        x.keep(0);
        for (int i = 0; i < 5; i++) {
            x.undo();
        }
        x.year();
        Check.due("count(4)", x.count(4), 6);
        x.back(0);
        Check.due("count(4)", x.count(4), 10);
        for (int i = 9; i >= 0; i--) {
            Check.due("undo()", x.undo(), i);
            Check.due("anchor(0, 3)", x.anchor(0, 3), 11 + i);
        }
        Check.due("undo()", x.undo(), -2);
        x.back(0);
        Check.due("count(4)", x.count(4), 10);
        Check.due("anchor(0, 3)", x.anchor(0, 3), 21);
    }

    private static void imagesKeepNothingElse() {
        AnchorWills x = Check.town(TOWN);
        x.hears(3, 1);
        x.keep(0);
        x.hears(4, 1);
        x.mark(0, 0);
        x.type('r');
        x.back(0);
        Check.due("count(3)", x.count(3), 2);
        Check.due("count(5)", x.count(5), 1);
        Check.due("trace()", x.trace(), 1);
        Check.due("count(4)", x.count(4), 0);
    }
}
