/** Promise 4: town, of sound texts. */
public final class P04TownTest {
    private static final String EIGHT = "r0;" + "a0 0 1 1 0;".repeat(8);

    public static void main(String[] args) {
        Check.all(P04TownTest.class);
    }

    @Says({"ITEMS (none, too)", "THE TEXT tells all, and is empty then: how many ITEMS."})
    static void anEmptyTextTellsATownOfNone() {
        Run x = Run.town("c0 9 0;r0;a0 0 1 1 0;").due("town()", 0);
        x.row("count(*)", 0, 0, 0, 0, 0, 0).row("cell(0, *)", 3, 1, 0).due("raft(0, 0)", Run.BAD);
        x.due("anchor(0, 0)", Run.BAD).due("now(0)", 0);
    }

    @Says({"blanks (32)", "ITEMS (none, too)"})
    static void aTextOfBlanksTellsATownOfNone() {
        new Run().types(" ").due("town()", 0).due("count(5)", 0);
        Run.town("r0;").types(" ".repeat(200)).due("town()", 0).row("count(*)", 0, 0, 0, 0, 0, 0);
    }

    @Says("THE TEXT tells all, and is empty then: how many ITEMS.")
    static void howManyItemsOfAllLetters() {
        Run x = new Run().types("r0;").due("town()", 1).due("count(5)", 0).types("c0 1 1;").due("town()", 1);
        x.types("r0;r0;t0 1;t1 0;c1 1 1;c1 1 1;a0 0 1 1 0;").due("town()", 7).due("count(5)", 0).due("town()", 0);
        new Run().types("c1 1 1;".repeat(28) + "r0;").due("town()", 29);
        new Run().types("r0;r0;" + "t0 1;".repeat(38)).due("town()", 40).due("count(2)", 1);
    }

    @Says("blanks (32) ahead of, between and behind TOKENS as may be (none needed where TOKENS end without)")
    static void blanksAheadOfTokens() {
        Run.town(" r0;").due("count(0)", 1);
        Run.town("     r0;  a0 1 2 3 4;").due("anchor(0, 4)", 4);
    }

    @Says("blanks (32) ahead of, between and behind TOKENS as may be (none needed where TOKENS end without)")
    static void blanksBetweenTokens() {
        Run.town("r 0 ;  a   0    1 2  3 4 ; c  1  2   3  ;").row("anchor(0, *)", 0, 1, 2, 3, 4).row("cell(1, *)", 2, 3, 1);
        Run.town("r 0;r 0;t 0 1 ;").due("count(2)", 1);
    }

    @Says("blanks (32) ahead of, between and behind TOKENS as may be (none needed where TOKENS end without)")
    static void blanksBehindTokens() {
        Run.town("r0; ").due("count(0)", 1);
        Run.town("r0;" + " ".repeat(197)).due("count(0)", 1);
    }

    @Says("(none needed where TOKENS end without)")
    static void noBlanksWhereTokensEndWithout() {
        Run x = Run.town("r0;r0;c1 2 3;a1 2 3 4 5;t0 1;").row("anchor(0, *)", 1, 2, 3, 4, 5).row("cell(1, *)", 2, 3, 0);
        x.due("count(2)", 1);
    }

    @Says("DEEP (1 .. 9; 3 at first), GRIP (0 .. 3; 1 at first)")
    static void theLeastAndMostOfACell() {
        Run x = Run.town("c0 1 0;c9 9 3;c1 1 3;c8 9 0;");
        x.row("cell(0, *)", 1, 0).row("cell(9, *)", 9, 3).row("cell(1, *)", 1, 3).row("cell(8, *)", 9, 0);
        x.row("cell(2, *)", 3, 1).row("cell(7, *)", 3, 1);
    }

    @Says("c X D G (DEEP, GRIP of a CELL; told again: the later)")
    static void aCellToldAgainIsTheLater() {
        Run x = Run.town("c4 9 3;c4 1 0;").row("cell(4, *)", 1, 0).row("cell(3, *)", 3, 1).row("cell(5, *)", 3, 1);
        Run.town("c4 1 0;c5 2 2;c4 9 3;c4 3 1;c4 8 2;").row("cell(4, *)", 8, 2).row("cell(5, *)", 2, 2);
        x.types("r0;a0 4 1 60 0;c4 1 3;").due("town()", 3).due("anchor(0, 7)", 4 + 60);
    }

    @Says("RAFTS 0 .. (6 at most)")
    static void theSixthRaftComes() {
        Run.town("r0;r0;r0;r0;r0;").due("count(0)", 5).due("raft(5, 0)", Run.BAD);
        Run.town("r0;r0;r0;r0;r0;r0;").due("count(0)", 6).due("raft(5, 0)", 0).due("raft(6, 0)", Run.BAD);
    }

    @Says("r N (the next RAFT: NEXT, a RAFT told ahead or its own number)")
    static void nextIsToldAheadOrItself() {
        Run x = Run.town("r0;r1;r2;r3;r4;r5;");
        Run y = Run.town("r0;r0;r1;r2;r3;r4;");
        for (int r = 0; r < 6; r++) {
            x.due("raft(" + r + ", 0)", r);
            y.due("raft(" + r + ", 0)", Math.max(r - 1, 0));
        }
        Run.town("r0;r1;r1;r0;").due("raft(2, 0)", 1).due("raft(3, 0)", 0);
    }

    @Says("ANCHORS 0 .. (8 at most)")
    static void theEighthAnchorComes() {
        Run.town("r0;" + "a0 0 1 1 0;".repeat(7)).due("count(1)", 7).due("anchor(7, 0)", Run.BAD);
        Run.town(EIGHT).due("count(1)", 8).due("anchor(7, 0)", 0).due("anchor(8, 0)", Run.BAD).due("now(0)", 255);
    }

    @Says({"ANCHORS 0 .. (8 at most): OWNER (a RAFT), CELL, WEIGHT (1 .. 9), LINKS (1 .. 60), WORTH (0 .. 99).",
        "a O X W L V (the next ANCHOR of a RAFT told ahead:"})
    static void theLeastAndMostOfAnAnchor() {
        Run x = Run.town("r0;r0;a0 0 1 1 0;a1 9 9 60 99;a0 9 1 60 0;a1 0 9 1 99;");
        x.row("anchor(0, *)", 0, 0, 1, 1, 0).row("anchor(1, *)", 1, 9, 9, 60, 99);
        x.row("anchor(2, *)", 0, 9, 1, 60, 0).row("anchor(3, *)", 1, 0, 9, 1, 99);
    }

    @Says("a O X W L V (the next ANCHOR of a RAFT told ahead:")
    static void anchorsBetweenRafts() {
        Run.town("r0;a0 1 1 1 1;r0;a1 2 2 2 2;a0 3 3 3 3;").row("count(*)", 2, 3).due("anchor(1, 0)", 1).due("anchor(2, 0)", 0);
    }

    @Says({"ROPES between two unlike RAFTS", "t A B (a ROPE of two RAFTS told ahead; told again: as it is)"})
    static void aRopeToldAgainIsAsItIs() {
        Run x = Run.town("r0;r0;r0;t0 1;t0 1;").due("count(2)", 1).due("raft(0, 4)", 3).due("raft(2, 4)", 4);
        x.reads("r0;r0;r0;t0 1;t1 0;").due("count(2)", 1).due("raft(1, 4)", 3);
        x.reads("r0;r0;r0;t2 0;t0 1;t1 0;t0 2;t2 0;").due("count(2)", 2).due("raft(1, 4)", 7);
    }

    @Says({"ROPES between two unlike RAFTS", "RAFTS 0 .. (6 at most)"})
    static void allRopesOfSixRafts() {
        StringBuilder text = new StringBuilder("r0;r0;r0;r0;r0;r0;");
        for (int b = 1; b < 6; b++) {
            for (int a = 0; a < b; a++) {
                text.append('t').append(b).append(' ').append(a).append(';');
            }
        }
        Run.town(text.toString()).due("count(2)", 15).due("raft(0, 4)", 63);
    }

    @Says("(Read anew: as told (what is not told as at first), nothing HEARD or to be UNDONE, IMAGES are gone; THE TRACE stays.)")
    static void readAnewIsAsTold() {
        Run x = Run.town("c3 4 2;c4 9 0;r0;r0;r1;t0 1;a0 3 2 8 5;a1 9 9 9 9;a1 9 1 1 1;");
        x.does("year()", "pays(1, 9)", "hauls(0, 0)", "wills(0, 1)", "dies(0)", "storms(99, 1)", "hears(5, 1)");
        x.reads("c4 8 1;r0;r1;a1 4 2 8 5;a0 4 1 1 1;");
        x.row("count(*)", 2, 2, 0, 0, 0, 0).row("cell(3, *)", 3, 1, 0).row("cell(4, *)", 8, 1, 3);
        x.row("raft(0, *)", 0, 0, 0, 1, 1, 2).row("raft(1, *)", 1, 0, 0, 5, 2, 5);
        x.row("anchor(0, *)", 1, 4, 2, 8, 5, 0, 0, 7, 1).row("anchor(1, *)", 0, 4, 1, 1, 1, 0, 0, 7, 0);
        x.row("now(*)", 3, 0, 0, 0, 0).due("anchor(2, 0)", Run.BAD).due("raft(2, 0)", Run.BAD);
    }

    @Says("what is not told as at first")
    static void readAnewNothingIsLeftOfALargerTown() {
        Run x = Run.town("c0 1 3;r0;r0;r0;t0 1;t1 2;a2 9 9 60 99;a0 0 9 60 99;a0 0 9 60 99;a1 0 9 60 99;");
        x.does("hauls(2, 0)", "year()", "wills(0, 2)", "dies(2)").reads("r0;a0 0 1 3 5;");
        x.row("raft(0, *)", 0, 0, 0, 5, 1, 3).row("anchor(0, *)", 0, 0, 1, 3, 5, 0, 0, 3, 0).row("cell(0, *)", 3, 1, 1);
        x.due("cell(9, 2)", 0).row("now(*)", 1, 0, 0, 0, 0).due("vital(0, 1)", 1).due("vital(0, 3)", 1).due("vital(0, 4)", 0);
        x.due("fits()", 1).due("ask()", Run.NONE).due("wreck(9, 1, 0)", 1).due("place(1, 3, 0)", 0).due("year()", 1);
        x.due("place(3, 3, 0)", Run.BAD).due("raft(1, 0)", Run.BAD).due("storms(4, 0)", 1).due("now(2)", 1);
        x.reads("r0;r0;").row("raft(0, *)", 0, 0, 0, 0, 1, 0).row("raft(1, *)", 0, 0, 0, 0, 2, 0).due("now(0)", 0);
    }

    @Says("nothing HEARD or to be UNDONE")
    static void readAnewNothingIsHeardOrToBeUndone() {
        Run x = Run.town("r0;a0 3 2 8 5;").does(6, "hears(99, 1)").does(11, "year()");
        x.reads("r0;a0 3 2 8 5;").due("count(3)", 0).due("count(4)", 0).due("fits()", 1).due("undo()", Run.STATE);
        x.due("hears(1, 1)", 1).due("year()", 1).due("undo()", 0).due("undo()", Run.STATE).due("forget()", 1);
    }

    @Says("IMAGES are gone")
    static void readAnewImagesAreGone() {
        Run x = Run.town("r0;").due("keep(0)", 0).due("keep(1)", 0).reads("r0;a0 0 1 1 1;");
        x.stays(Run.STATE, "back(0)", "back(1)").due("keep(1)", 1).due("back(0)", Run.STATE).due("back(1)", 1);
        Run.town("r0;").due("keep(0)", 0).due("town()", 0).due("back(0)", Run.STATE);
    }

    @Says("THE TRACE stays.")
    static void readAnewTheTraceStays() {
        Run x = Run.town("r0;a0 0 1 1 1;").does("mark(3, 0)").reads("r0;a0 0 1 1 1;").due("trace()", 1011);
        x.does("mark(0, 0)").due("town()", 0).due("trace()", 1012);
    }
}
