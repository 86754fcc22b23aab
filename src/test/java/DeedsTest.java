/** Anchors and all that is done and undone: promises 7 to 15. */
public final class DeedsTest {
    /** Anchors 0 and 1 foul one another in cell 1 (6 + 2 * 3 + 3), 2 lies alone in cell 9 (2 + 1). */
    private static final String TWO = "c1 2 2;r0;r0;a0 1 2 12 40;a1 1 1 6 20;a1 9 1 3 7;t0 1;";

    public static void main(String[] args) {
        anchors();
        whose();
        storms();
        stormsAllAtOnce();
        pays();
        dies();
        wills();
        years();
        hauls();
        undoes();
        tenUndone();
        now();
        refusedDeedsAreNotUndone();
        Check.end();
    }

    private static void anchors() {
        AnchorWills x = Check.town(TWO);
        int[][] want = {{0, 1, 2, 12, 40, 0, 0, 18, 0}, {1, 1, 1, 6, 20, 0, 0, 18, 1}, {1, 9, 1, 3, 7, 0, 0, 3, 1}};
        for (int a = 0; a < 3; a++) {
            for (int what = 0; what < 9; what++) {
                Check.due("anchor(" + a + ", " + what + ")", x.anchor(a, what), want[a][what]);
            }
        }
        Check.due("anchor(3, 0)", x.anchor(3, 0), -1);
        Check.due("anchor(-1, 0)", x.anchor(-1, 0), -1);
        Check.due("anchor(0, 9)", x.anchor(0, 9), -1);
        Check.due("anchor(0, -1)", x.anchor(0, -1), -1);
    }

    private static void whose() {
        AnchorWills x = Check.town("r0;r0;r1;r3;a0 0 1 1 9;a1 1 1 1 9;a2 2 1 1 9;a3 3 1 1 9;");
        x.dies(3);
        Check.due("whose of one gone without next", x.anchor(3, 8), -9);
        x.dies(2);
        Check.due("whose of one gone", x.anchor(2, 8), 1);
        x.dies(1);
        Check.due("whose over two gone", x.anchor(2, 8), 0);
        Check.due("owner stays", x.anchor(2, 0), 2);
        x.wills(0, 2);
        x.dies(0);
        for (int a = 0; a < 4; a++) {
            Check.due("whose round among those gone", x.anchor(a, 8), -9);
        }
        AnchorWills y = Check.town("r0;r0;r1;r2;r3;r4;a5 0 1 1 9;");
        for (int r = 5; r > 0; r--) {
            y.dies(r);
            Check.due("whose over more and more", y.anchor(0, 8), r - 1);
        }
        y.dies(0);
        Check.due("whose of nobody", y.anchor(0, 8), -9);
    }

    private static void storms() {
        AnchorWills x = Check.town(TWO);
        Check.due("storms(0, 0)", x.storms(0, 0), -1);
        Check.due("storms(100, 0)", x.storms(100, 0), -1);
        Check.due("storms(1, 2)", x.storms(1, 2), -1);
        Check.due("storms(1, -1)", x.storms(1, -1), -1);
        Check.due("count(4)", x.count(4), 0);
        Check.due("storms(3, 1) that is held", x.storms(3, 1), 0);
        Check.due("anchor(2, 6)", x.anchor(2, 6), 0);
        Check.due("storms(4, 1)", x.storms(4, 1), 1);
        Check.due("anchor(2, 6)", x.anchor(2, 6), 2);
        Check.due("anchor(2, 1) where it did lie", x.anchor(2, 1), 9);
        Check.due("anchor(2, 7)", x.anchor(2, 7), -9);
        Check.due("storms(99, 1) of one lost", x.storms(99, 1), 0);
        Check.due("anchor(0, 1)", x.anchor(0, 1), 2);
        Check.due("anchor(1, 1)", x.anchor(1, 1), 2);
        Check.due("anchor(0, 7) there", x.anchor(0, 7), 4 + 4 + 2 + 2);
        Check.due("storms(18, 0)", x.storms(18, 0), 0);
        Check.due("storms(18, 0) held", x.storms(18, 0), 0);
        Check.due("anchor(0, 1)", x.anchor(0, 1), 1);
        Check.due("storms(19, 0)", x.storms(19, 0), 0);
        Check.due("anchor(0, 1)", x.anchor(0, 1), 0);
        Check.due("storms(19, 0)", x.storms(19, 0), 2);
        Check.due("now(2)", x.now(2), 7);
    }

    /** Cell 4 holds 3, cell 5 holds 4: both drag by 5, and neither counts with where it comes to. */
    private static void stormsAllAtOnce() {
        AnchorWills x = Check.town("r0;a0 4 1 3 0;a0 5 1 6 0;a0 6 9 3 0;");
        Check.due("storms(5, 1)", x.storms(5, 1), 0);
        Check.due("anchor(0, 1)", x.anchor(0, 1), 5);
        Check.due("anchor(1, 1)", x.anchor(1, 1), 6);
        Check.due("anchor(2, 1)", x.anchor(2, 1), 6);
        Check.due("anchor(1, 7)", x.anchor(1, 7), 4 + 19);
        Check.due("storms(5, 1)", x.storms(5, 1), 0);
        Check.due("anchor(0, 1)", x.anchor(0, 1), 6);
        Check.due("anchor(1, 1) fouled holds", x.anchor(1, 1), 6);
    }

    private static void pays() {
        AnchorWills x = Check.town(TWO);
        Check.due("pays(0, 0)", x.pays(0, 0), -1);
        Check.due("pays(0, 10)", x.pays(0, 10), -1);
        Check.due("pays(0, -10)", x.pays(0, -10), -1);
        Check.due("pays(3, 1)", x.pays(3, 1), -1);
        Check.due("pays(-1, 1)", x.pays(-1, 1), -1);
        Check.due("pays(0, -9)", x.pays(0, -9), 3);
        Check.due("pays(0, -3)", x.pays(0, -3), -2);
        Check.due("pays(0, -2)", x.pays(0, -2), 1);
        for (int links = 10; links <= 55; links += 9) {
            Check.due("pays(0, 9)", x.pays(0, 9), links);
        }
        Check.due("pays(0, 6)", x.pays(0, 6), -2);
        Check.due("pays(0, 5)", x.pays(0, 5), 60);
        Check.due("anchor(0, 3)", x.anchor(0, 3), 60);
        x.hauls(1, 2);
        Check.due("pays(2, 1) of one up", x.pays(2, 1), -2);
        Check.due("pays(2, 10) of one up", x.pays(2, 10), -1);
    }

    private static void dies() {
        AnchorWills x = Check.town("r0;r0;r0;");
        Check.due("dies(3)", x.dies(3), -1);
        Check.due("dies(-1)", x.dies(-1), -1);
        Check.due("dies(2)", x.dies(2), 1);
        Check.due("dies(2)", x.dies(2), -2);
        Check.due("dies(0)", x.dies(0), 2);
        Check.due("dies(1)", x.dies(1), 3);
        Check.due("now(3)", x.now(3), 7);
        Check.due("raft(1, 1)", x.raft(1, 1), 1);
    }

    private static void wills() {
        AnchorWills x = Check.town("r0;r0;r0;");
        Check.due("wills(3, 0)", x.wills(3, 0), -1);
        Check.due("wills(0, 3)", x.wills(0, 3), -1);
        Check.due("wills(-1, 0)", x.wills(-1, 0), -1);
        Check.due("wills(0, -1)", x.wills(0, -1), -1);
        Check.due("wills(0, 0)", x.wills(0, 0), -2);
        Check.due("wills(0, 2)", x.wills(0, 2), 0);
        Check.due("wills(0, 1)", x.wills(0, 1), 2);
        Check.due("wills(0, 0)", x.wills(0, 0), 1);
        Check.due("raft(0, 0)", x.raft(0, 0), 0);
        x.dies(1);
        Check.due("wills(1, 2) of one gone", x.wills(1, 2), -2);
        Check.due("wills(1, 3) of one gone", x.wills(1, 3), -1);
        Check.due("wills(2, 1) to one gone", x.wills(2, 1), 0);
        Check.due("raft(2, 0)", x.raft(2, 0), 1);
    }

    private static void years() {
        AnchorWills x = Check.town(TWO);
        Check.due("year()", x.year(), 3);
        Check.due("year()", x.year(), 6);
        x.hauls(1, 2);
        Check.due("year() with one up", x.year(), 6);
        Check.due("anchor(2, 5)", x.anchor(2, 5), 2);
        for (int age = 4; age <= 99; age++) {
            Check.due("year()", x.year(), 2 * age);
        }
        Check.due("year() of the oldest", x.year(), 198);
        Check.due("anchor(0, 5)", x.anchor(0, 5), 99);
        Check.due("undo()", x.undo(), 9);
        Check.due("undo()", x.undo(), 8);
        Check.due("anchor(0, 5)", x.anchor(0, 5), 98);
    }

    private static void hauls() {
        AnchorWills x = Check.town("r0;r0;r2;a0 1 1 1 40;a1 1 1 1 20;a2 1 1 1 10;a0 1 1 1 3;a0 5 1 1 0;");
        Check.due("hauls(3, 0)", x.hauls(3, 0), -1);
        Check.due("hauls(0, 5)", x.hauls(0, 5), -1);
        Check.due("hauls(-1, 0)", x.hauls(-1, 0), -1);
        Check.due("hauls(0, -1)", x.hauls(0, -1), -1);
        Check.due("hauls(0, 0) over others'", x.hauls(0, 0), -2);
        Check.due("hauls(1, 4) of another's", x.hauls(1, 4), -2);
        Check.due("hauls(0, 4)", x.hauls(0, 4), 0);
        Check.due("hauls(0, 4) again", x.hauls(0, 4), -2);
        Check.due("anchor(4, 1)", x.anchor(4, 1), 5);
        Check.due("anchor(4, 6)", x.anchor(4, 6), 1);
        Check.due("anchor(4, 7)", x.anchor(4, 7), -9);
        for (int i = 0; i < 5; i++) {
            x.year();
        }
        x.dies(1);
        Check.due("hauls(0, 0) over the third's", x.hauls(0, 0), -2);
        x.dies(2);
        Check.due("hauls(0, 0) over nobody's", x.hauls(0, 0), 35);
        Check.due("hauls(0, 1) of its inheritance", x.hauls(0, 1), 50);
        Check.due("hauls(1, 1) by one gone", x.hauls(1, 1), -2);
        Check.due("hauls(2, 2) by one gone", x.hauls(2, 2), -2);
        Check.due("hauls(0, 2) of nobody's", x.hauls(0, 2), -2);
        Check.due("hauls(0, 3) of less worth than age", x.hauls(0, 3), 50);
        Check.due("raft(0, 2)", x.raft(0, 2), 50);
        Check.due("now(4)", x.now(4), 50);
        Check.due("now(1)", x.now(1), 0b11011);
        AnchorWills y = Check.town("r0;r0;a0 0 1 1 9;a1 0 1 1 9;");
        y.wills(1, 0);
        Check.due("hauls(0, 0) over the heir's", y.hauls(0, 0), -2);
        y.storms(99, 0);
        Check.due("hauls(0, 0) of one lost", y.hauls(0, 0), -2);
    }

    private static void undoes() {
        AnchorWills x = Check.town(TWO);
        Check.due("undo()", x.undo(), -2);
        x.storms(99, 1);
        x.pays(0, 3);
        x.dies(0);
        x.wills(1, 1);
        x.year();
        Check.due("hauls(1, 1) over nobody's", x.hauls(1, 1), 19);
        Check.due("count(4)", x.count(4), 6);
        x.hears(9, 1);
        Check.due("undo() of hauls", x.undo(), 5);
        Check.due("anchor(1, 6)", x.anchor(1, 6), 0);
        Check.due("now(4)", x.now(4), 0);
        Check.due("undo() of year", x.undo(), 4);
        Check.due("anchor(1, 5)", x.anchor(1, 5), 0);
        Check.due("undo() of wills", x.undo(), 3);
        Check.due("raft(1, 0)", x.raft(1, 0), 0);
        Check.due("undo() of dies", x.undo(), 2);
        Check.due("now(3)", x.now(3), 0);
        Check.due("undo() of pays", x.undo(), 1);
        Check.due("anchor(0, 3)", x.anchor(0, 3), 12);
        Check.due("anchor(0, 1)", x.anchor(0, 1), 2);
        Check.due("undo() of storms", x.undo(), 0);
        Check.due("anchor(0, 1)", x.anchor(0, 1), 1);
        Check.due("anchor(2, 6)", x.anchor(2, 6), 0);
        Check.due("undo()", x.undo(), -2);
        Check.due("count(3) is not undone", x.count(3), 1);
    }

    private static void tenUndone() {
        AnchorWills x = Check.town("r0;r0;a0 5 3 20 50;");
        x.wills(0, 1);
        x.wills(1, 1);
        for (int i = 1; i <= 12; i++) {
            x.pays(0, 1);
            Check.due("count(4)", x.count(4), Math.min(i + 2, 10));
        }
        for (int i = 9; i >= 0; i--) {
            Check.due("undo()", x.undo(), i);
            Check.due("anchor(0, 3)", x.anchor(0, 3), 22 + i);
        }
        Check.due("undo()", x.undo(), -2);
        Check.due("raft(0, 0)", x.raft(0, 0), 1);
        x.hauls(0, 0);
        x.dies(0);
        Check.due("raft(0, 2)", x.raft(0, 2), 50);
        Check.due("undo() of dies", x.undo(), 1);
        Check.due("now(3)", x.now(3), 0);
        Check.due("undo() of hauls", x.undo(), 0);
        Check.due("raft(0, 2)", x.raft(0, 2), 0);
        Check.due("now(0)", x.now(0), 1);
    }

    private static void now() {
        AnchorWills x = Check.town(TWO);
        Check.due("now(0)", x.now(0), 7);
        Check.due("now(-1)", x.now(-1), -1);
        Check.due("now(5)", x.now(5), -1);
        x.storms(4, 1);
        Check.due("now(0)", x.now(0), 3);
        Check.due("now(1)", x.now(1), 0);
        Check.due("now(2)", x.now(2), 4);
        x.wills(1, 0);
        x.dies(1);
        x.hauls(0, 0);
        Check.due("now(0)", x.now(0), 2);
        Check.due("now(1)", x.now(1), 1);
        Check.due("now(2)", x.now(2), 4);
        Check.due("now(3)", x.now(3), 2);
        Check.due("now(4)", x.now(4), 40);
    }

    private static void refusedDeedsAreNotUndone() {
        AnchorWills x = Check.town(TWO);
        x.storms(0, 0);
        x.pays(0, 0);
        x.pays(1, -9);
        x.dies(2);
        x.wills(0, 0);
        x.hauls(0, 0);
        x.hauls(9, 0);
        Check.due("count(4)", x.count(4), 0);
        Check.due("undo()", x.undo(), -2);
    }
}
