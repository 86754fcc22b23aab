/** Promise 16: needs. */
public final class P16NeedsTest {
    /** In cell 0 a strength is 1 + LINKS / 9, in cell 1 it is 8 + LINKS. */
    private static final String TOWN = "c0 9 0;c1 1 3;r0;a0 0 1 9 10;a0 1 2 30 20;a0 1 1 1 1;a0 9 1 1 1;";

    public static void main(String[] args) {
        Check.all(P16NeedsTest.class);
    }

    @Says("the fewest LINKS (1 .. 60) by which its STRENGTH there would be f or more")
    static void theFewestLinks() {
        Run x = Run.town(TOWN).due("needs(0, 1)", 1).due("needs(0, 2)", 9).due("needs(0, 3)", 18).due("needs(0, 7)", 54);
        x.due("needs(1, 10)", 2).due("needs(1, 40)", 32).due("needs(3, 3)", 3).due("needs(3, 4)", 6);
    }

    @Says("the fewest LINKS (1 .. 60)")
    static void oneLinkAtLeast() {
        Run.town(TOWN).due("needs(1, 1)", 1).due("needs(1, 8)", 1).due("needs(1, 9)", 1).due("needs(1, 10)", 2);
    }

    @Says("the fewest LINKS (1 .. 60) by which its STRENGTH there would be f or more; NONE.")
    static void sixtyLinksAtMost() {
        Run.town(TOWN).due("needs(1, 67)", 59).due("needs(1, 68)", 60).due("needs(1, 69)", Run.NONE).due("needs(1, 99)", Run.NONE);
        Run.town(TOWN).due("needs(0, 7)", 54).due("needs(0, 8)", Run.NONE).due("needs(3, 22)", 60).due("needs(3, 23)", Run.NONE);
    }

    @Says("its STRENGTH there would be f or more")
    static void othersInTheCellDoNotCount() {
        Run.town(TOWN).due("anchor(2, 7)", 43).due("needs(2, 43)", 39).due("needs(2, 5)", 1).due("needs(2, 6)", 2);
    }

    @Says("NEEDS of an ANCHOR that LIES for f (1 .. 99)")
    static void fFrom1To99() {
        Run.town(TOWN).due("needs(0, 1)", 1).due("needs(0, 99)", Run.NONE);
        Run.town(TOWN).stays(Run.BAD, "needs(0, 0)", "needs(0, 100)", "needs(0, -1)", "needs(0, 2147483647)");
    }

    @Says("NEEDS; NONE. BAD; STATE: it does not LIE.")
    static void oneUpOrLost() {
        Run.town(TOWN).does("hauls(0, 0)").stays(Run.STATE, "needs(0, 1)", "needs(0, 99)");
        Run.town(TOWN).does("storms(3, 1)").due("now(2)", 8).stays(Run.STATE, "needs(3, 1)");
    }

    @Says("the first of these: BAD (a number is not as told, or there is no such thing), STATE (as told), FULL.")
    static void badIsAheadOfState() {
        Run.town(TOWN).does("hauls(0, 0)").stays(Run.BAD, "needs(0, 0)", "needs(0, 100)");
    }

    @Says("there is no such thing")
    static void theFirstAndTheLastAnchor() {
        Run.town(TOWN).stays(Run.BAD, "needs(-1, 1)", "needs(4, 1)", "needs(7, 1)", "needs(8, 1)", "needs(2147483647, 1)");
    }

    @Says("(Nothing is changed.)")
    static void nothingIsChanged() {
        Run.town(TOWN).does("year()").stays(54, "needs(0, 7)");
    }
}
