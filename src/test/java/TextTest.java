/** The text and what it tells: promises 2 to 6 and 29. */
public final class TextTest {
    public static void main(String[] args) {
        bytes();
        fullText();
        soundTexts();
        faults();
        faultChangesNothing();
        cells();
        rafts();
        readAnew();
        Check.end();
    }

    private static void bytes() {
        AnchorWills x = new AnchorWills();
        Check.due("type(-1)", x.type(-1), -1);
        Check.due("type(256)", x.type(256), -1);
        Check.due("type(MIN)", x.type(Integer.MIN_VALUE), -1);
        Check.due("type(MAX)", x.type(Integer.MAX_VALUE), -1);
        Check.due("type(0)", x.type(0), 1);
        Check.due("type(255)", x.type(255), 2);
        Check.due("count(5)", x.count(5), 2);
        Check.due("town()", x.town(), -10);
        Check.due("clear()", x.clear(), 2);
        Check.due("clear()", x.clear(), 0);
        Check.due("count(5)", x.count(5), 0);
    }

    private static void fullText() {
        AnchorWills x = new AnchorWills();
        Check.type(x, "r0;" + " ".repeat(197));
        Check.due("type(32)", x.type(32), -3);
        Check.due("type(-1)", x.type(-1), -1);
        Check.due("count(5)", x.count(5), 200);
        Check.due("town()", x.town(), 1);
        Check.due("count(5)", x.count(5), 0);
        Check.due("type(32)", x.type(32), 1);
        x.clear();
        Check.type(x, " ".repeat(198) + "r0");
        Check.due("town()", x.town(), -210);
        Check.due("type(59)", x.type(59), -3);
        Check.due("clear()", x.clear(), 200);
        Check.type(x, "c1 1 1".repeat(1) + ";c1 1 1".repeat(27) + ";   r");
        Check.due("town()", x.town(), -210);
        x.clear();
        Check.type(x, "t".repeat(200));
        Check.due("town()", x.town(), -10);
    }

    private static void soundTexts() {
        Check.town("");
        Check.town("   ");
        Check.town("  c  0   9  3 ;  ");
        Check.town("c0 9 3;c9 1 0;c0 1 1;");
        Check.town("r0;r1;r2;r3;r4;r5;");
        Check.town("r0;a0 0 1 1 0;a0 9 9 60 99;a0 9 9 60 99;a0 9 9 60 99;a0 9 9 60 99;a0 9 9 60 99;a0 9 9 60 99;a0 9 9 60 99;");
        AnchorWills x = Check.town("r0;r0;r1;t0 1;t1 0;t 2 1 ;t1 2;t0 2;");
        Check.due("count(0)", x.count(0), 3);
        Check.due("count(1)", x.count(1), 0);
        Check.due("count(2)", x.count(2), 3);
        Check.due("count(6)", x.count(6), -1);
        Check.due("count(-1)", x.count(-1), -1);
    }

    private static void fault(String text, int at) {
        AnchorWills x = new AnchorWills();
        Check.type(x, text);
        Check.due("town() of \"" + text + "\"", x.town(), -10 - at);
        Check.due("clear() of \"" + text + "\"", x.clear(), text.length());
    }

    private static void faults() {
        String six = "r0;r0;r0;r0;r0;r0;";
        String eight = "r0;" + "a0 0 1 1 0;".repeat(8);
        fault("c", 1);
        fault("c ", 2);
        fault(" c0", 3);
        fault("c0 1", 4);
        fault("c0 1 1", 6);
        fault("c0 1 1  ", 8);
        fault("r0;r", 4);
        fault("cc0 1 1;", 0);
        fault("x", 0);
        fault("c0 1 1;cr", 7);
        fault(";", 0);
        fault("c0 1 1;;", 7);
        fault("7", 0);
        fault("r;", 1);
        fault("r0 0;", 3);
        fault("c0 1 1 1;", 7);
        fault("c0 1 1r0;", 6);
        fault("c0 1 1 c", 7);
        fault("c 01 1 1;", 2);
        fault("c 00 1 1;", 2);
        fault("c0 1 1;r 00;", 9);
        fault("c10 1 1;", 1);
        fault("c0 0 1;", 3);
        fault("c0 10 1;", 3);
        fault("c0 1 4;", 5);
        fault("c0 1 100;", 5);
        fault("c0 1 99999999999999999999;", 5);
        fault("c4294967296 1 1;", 1);
        fault("C0 1 1;", 0);
        fault("c0 1 1;\t", 7);
        fault("c0 -1 1;", 3);
        fault("c0$", 2);
        fault("c12$", 1);
        fault("" + (char) 255, 0);
        fault("r1;", 1);
        fault("r0;r2;", 4);
        fault(six + "r0;", 18);
        fault(six + " r", 19);
        fault(six + "rr", 18);
        fault("a0 0 1 1 0;", 1);
        fault("r0;a1 0 1 1 0;", 4);
        fault("r0;a0 10 1 1 0;", 6);
        fault("r0;a0 0 0 1 0;", 8);
        fault("r0;a0 0 10 1 0;", 8);
        fault("r0;a0 0 1 0 0;", 10);
        fault("r0;a0 0 1 61 0;", 10);
        fault("r0;a0 0 1 1 100;", 12);
        fault("r0;a0 0 1 1;", 11);
        fault("r0;a0 0 1 1 0", 13);
        fault(eight + "a0 0 1 1 0;", 3 + 88);
        fault("t0 1;", 1);
        fault("r0;t0 0;", 6);
        fault("r0;t0 1;", 6);
        fault("r0;r0;t1 1;", 9);
        fault("r0;r0;t2 1;", 7);
        fault("r0;r0;t0", 8);
        fault("r0;r0;t0 1 ", 11);
        fault("r0;r0;t0 1 1;", 11);
    }

    private static void faultChangesNothing() {
        AnchorWills x = Check.town("c3 4 2;r0;a0 3 2 8 5;");
        x.year();
        x.hears(5, 1);
        x.keep(1);
        x.mark(1, 0);
        Check.type(x, "c3 9 0;r0;r1;a0 1 1 1 1;t0 1;x");
        Check.due("town()", x.town(), -10 - 29);
        Check.due("count(5)", x.count(5), 30);
        Check.due("count(0)", x.count(0), 1);
        Check.due("count(1)", x.count(1), 1);
        Check.due("count(2)", x.count(2), 0);
        Check.due("count(3)", x.count(3), 1);
        Check.due("count(4)", x.count(4), 1);
        Check.due("cell(3, 0)", x.cell(3, 0), 4);
        Check.due("cell(3, 1)", x.cell(3, 1), 2);
        Check.due("anchor(0, 1)", x.anchor(0, 1), 3);
        Check.due("anchor(0, 5)", x.anchor(0, 5), 1);
        Check.due("back(1)", x.back(1), 1);
        Check.due("trace()", x.trace(), 11);
    }

    private static void cells() {
        AnchorWills x = Check.town("c0 9 3;c9 1 0;c5 5 2;c0 8 1;r0;a0 5 1 1 1;a0 5 1 1 1;a0 9 1 1 1;");
        Check.due("cell(0, 0)", x.cell(0, 0), 8);
        Check.due("cell(0, 1)", x.cell(0, 1), 1);
        Check.due("cell(5, 0)", x.cell(5, 0), 5);
        Check.due("cell(5, 1)", x.cell(5, 1), 2);
        Check.due("cell(5, 2)", x.cell(5, 2), 3);
        Check.due("cell(9, 0)", x.cell(9, 0), 1);
        Check.due("cell(9, 1)", x.cell(9, 1), 0);
        Check.due("cell(9, 2)", x.cell(9, 2), 4);
        Check.due("cell(4, 0)", x.cell(4, 0), 3);
        Check.due("cell(4, 1)", x.cell(4, 1), 1);
        Check.due("cell(4, 2)", x.cell(4, 2), 0);
        Check.due("cell(-1, 0)", x.cell(-1, 0), -1);
        Check.due("cell(10, 0)", x.cell(10, 0), -1);
        Check.due("cell(0, -1)", x.cell(0, -1), -1);
        Check.due("cell(0, 3)", x.cell(0, 3), -1);
        x.hauls(0, 0);
        Check.due("cell(5, 2) with one up", x.cell(5, 2), 2);
    }

    private static void rafts() {
        AnchorWills x = Check.town("r0;r0;r2;r1;a0 0 4 9 30;a1 1 2 3 20;a3 1 1 6 10;t0 3;t3 1;");
        int[][] want = {
            {0, 0, 0, 30, 0b1011, 11 + 5 + 4}, {0, 0, 0, 20, 0b1011, 20}, {2, 0, 0, 0, 0b100, 0}, {1, 0, 0, 10, 0b1011, 20}};
        for (int r = 0; r < 4; r++) {
            for (int what = 0; what < 6; what++) {
                Check.due("raft(" + r + ", " + what + ")", x.raft(r, what), want[r][what]);
            }
        }
        Check.due("raft(4, 0)", x.raft(4, 0), -1);
        Check.due("raft(-1, 0)", x.raft(-1, 0), -1);
        Check.due("raft(0, 6)", x.raft(0, 6), -1);
        Check.due("raft(0, -1)", x.raft(0, -1), -1);
        x.dies(3);
        Check.due("raft(3, 1)", x.raft(3, 1), 1);
        Check.due("raft(3, 3) of one gone", x.raft(3, 3), 0);
        Check.due("raft(1, 3) of its heir", x.raft(1, 3), 30);
        Check.due("raft(0, 4) over one gone", x.raft(0, 4), 0b1011);
        Check.due("raft(0, 5) with those of one gone", x.raft(0, 5), 20);
        x.hauls(0, 0);
        Check.due("raft(0, 2)", x.raft(0, 2), 30);
        Check.due("raft(0, 3)", x.raft(0, 3), 0);
        Check.due("raft(0, 5)", x.raft(0, 5), 9);
        for (int i = 0; i < 25; i++) {
            x.year();
        }
        Check.due("raft(1, 3) of worths less ages", x.raft(1, 3), 0);
    }

    private static void readAnew() {
        AnchorWills x = Check.town("c3 4 2;r0;r0;t0 1;a0 3 2 8 5;a1 9 9 9 9;");
        x.hears(5, 1);
        x.keep(0);
        x.keep(1);
        x.year();
        x.hauls(0, 0);
        x.dies(1);
        x.mark(5, 0);
        Check.reads(x, "r0;a0 4 2 8 5;");
        int[] counts = {1, 1, 0, 0, 0, 0};
        for (int what = 0; what < 6; what++) {
            Check.due("count(" + what + ")", x.count(what), counts[what]);
        }
        Check.due("cell(3, 0)", x.cell(3, 0), 3);
        Check.due("cell(3, 1)", x.cell(3, 1), 1);
        Check.due("anchor(0, 5)", x.anchor(0, 5), 0);
        Check.due("anchor(0, 6)", x.anchor(0, 6), 0);
        Check.due("raft(0, 1)", x.raft(0, 1), 0);
        Check.due("raft(0, 2)", x.raft(0, 2), 0);
        Check.due("raft(0, 4)", x.raft(0, 4), 1);
        Check.due("now(3)", x.now(3), 0);
        Check.due("undo()", x.undo(), -2);
        Check.due("back(0)", x.back(0), -2);
        Check.due("back(1)", x.back(1), -2);
        Check.due("trace()", x.trace(), 100001);
        Check.due("town() of none", x.town(), 0);
        Check.due("count(0)", x.count(0), 0);
        Check.due("anchor(0, 0)", x.anchor(0, 0), -1);
    }
}
