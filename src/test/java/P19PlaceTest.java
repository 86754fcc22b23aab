/** Promise 19: place. */
public final class P19PlaceTest {
    /** With 9 links one of weight 1 has strength 13 in cells 2 and 6, 5 in others; 0, 1, 2 lie in cells 0, 1, 2. */
    private static final String TOWN = "c2 1 3;c6 1 3;r0;a0 0 1 9 0;a0 1 1 9 0;a0 2 1 9 0;";

    public static void main(String[] args) {
        Check.all(P19PlaceTest.class);
    }

    @Says({"the first (ANCHOR by ANCHOR, the lowest CELL): the CELL of one of them", "PLACE; NONE."})
    static void theFirstWay() {
        Run.town(TOWN).due("place(7, 5, 0)", 0).due("place(7, 5, 1)", 1).due("place(7, 5, 2)", 2);
        Run.town(TOWN).due("place(4, 13, 2)", 2).due("place(1, 13, 0)", 6).due("place(5, 13, 0)", 2).due("place(5, 13, 2)", 6);
        Run.town("r0;a0 9 1 9 0;a0 8 1 9 0;").due("place(3, 5, 0)", 0).due("place(3, 5, 1)", 1).due("place(2, 5, 1)", 0);
    }

    @Says("so that each one's STRENGTH there is f or more")
    static void eachOnesStrengthIsFOrMore() {
        Run.town("r0;a0 5 3 12 0;").due("place(1, 9, 0)", 0).due("place(1, 10, 0)", 0).due("place(1, 11, 0)", Run.NONE);
        Run.town("r0;a0 5 3 12 0;a0 4 3 9 0;").due("place(3, 9, 1)", 1).due("place(3, 10, 0)", Run.NONE)
            .due("place(3, 10, 1)", Run.NONE).due("place(1, 10, 0)", 0);
        Run.town("r0;a0 5 1 9 0;a0 5 1 9 0;").due("anchor(0, 7)", 10).due("place(3, 6, 0)", Run.NONE);
    }

    @Says("so that each one's STRENGTH there is f or more")
    static void strengthIsOfTheCellThere() {
        Run.town("c0 9 0;c1 9 3;c2 1 0;r0;a0 5 2 9 0;").due("place(1, 3, 0)", 0).due("place(1, 4, 0)", 1).due("place(1, 9, 0)", 1)
            .due("place(1, 10, 0)", 2).due("place(1, 11, 0)", 2).due("place(1, 12, 0)", Run.NONE);
    }

    @Says("no two into one")
    static void noTwoIntoOne() {
        Run.town("c4 1 3;r0;a0 4 1 9 0;a0 4 1 9 0;").due("place(1, 13, 0)", Run.NONE).due("place(3, 13, 0)", Run.NONE);
        Run.town("c4 1 3;c9 1 3;r0;a0 4 1 9 0;a0 4 1 9 0;").due("place(3, 13, 0)", 4).due("place(3, 13, 1)", 9);
    }

    @Says("none where one LIES that is not of the set")
    static void noneWhereAnotherLies() {
        Run x = Run.town(TOWN).due("place(3, 13, 0)", Run.NONE).due("place(3, 13, 1)", Run.NONE).due("place(6, 5, 1)", 1);
        x.due("place(6, 5, 2)", 2).due("place(2, 5, 1)", 1).due("place(4, 5, 2)", 2).due("place(1, 5, 0)", 0);
        Run.town("r0;a0 0 1 9 0;a0 1 1 9 0;").due("place(2, 5, 1)", 1).due("place(1, 5, 0)", 0);
    }

    @Says("none where one LIES that is not of the set")
    static void whereThoseOfTheSetLieIsFree() {
        Run.town("r0;a0 1 1 9 0;a0 0 1 9 0;").due("place(3, 5, 0)", 0).due("place(3, 5, 1)", 1);
        Run.town("r0;a0 0 1 9 0;a0 0 1 9 0;").due("place(1, 5, 0)", 1).due("place(3, 5, 0)", 0).due("place(3, 5, 1)", 1);
    }

    @Says("none where one LIES that is not of the set")
    static void whereThoseUpOrLostDidLieIsFree() {
        Run.town(TOWN).does("hauls(0, 0)").due("place(2, 5, 1)", 0);
        Run.town("r0;a0 0 1 9 0;a0 1 9 9 0;").does("storms(6, 0)").due("now(2)", 1).due("place(2, 5, 1)", 0);
    }

    @Says("of all ways to lay these into CELLS")
    static void itGoesBackWhereTheLastHasNoCell() {
        Run x = Run.town("c0 1 3;c5 2 0;r0;a0 3 2 20 0;a0 3 1 20 0;").due("place(1, 12, 0)", 0).due("place(2, 12, 1)", 0);
        x.due("place(3, 12, 0)", 5).due("place(3, 12, 1)", 0).due("place(3, 11, 0)", 0).due("place(3, 11, 1)", 5);
        x.due("place(3, 13, 0)", Run.NONE).due("place(3, 13, 1)", Run.NONE);
    }

    @Says("NONE (there is none)")
    static void eightInTenCells() {
        StringBuilder text = new StringBuilder("c0 9 3;r0;");
        for (int a = 0; a < 8; a++) {
            text.append("a0 ").append(a).append(" 9 1 0;");
        }
        Run x = Run.town(text.toString());
        for (int a = 0; a < 8; a++) {
            x.due("place(255, 18, " + a + ")", a).due("place(255, 19, " + a + ")", Run.NONE);
        }
        x.due("place(1, 36, 0)", 0).due("place(1, 37, 0)", Run.NONE).due("place(128, 36, 7)", Run.NONE);
    }

    @Says("BAD (the ANCHOR is not of the set, too)")
    static void aSetInWhichTheAnchorIsNot() {
        Run.town(TOWN).stays(Run.BAD, "place(1, 5, 1)", "place(6, 5, 0)", "place(3, 5, 2)", "place(5, 5, 1)");
    }

    @Says("BAD (the ANCHOR is not of the set, too)")
    static void anEmptySet() {
        Run.town(TOWN).stays(Run.BAD, "place(0, 5, 0)", "place(0, 5, 1)", "place(0, 5, 2)");
        new Run().stays(Run.BAD, "place(0, 5, 0)");
    }

    @Says("there is no such thing")
    static void aSetOfAnchorsThatAreNot() {
        Run.town(TOWN).stays(Run.BAD, "place(8, 5, 3)", "place(9, 5, 0)", "place(15, 5, 0)", "place(256, 5, 0)", "place(257, 5, 0)");
        Run.town(TOWN).stays(Run.BAD, "place(-1, 5, 0)", "place(2147483647, 5, 0)", "place(-2147483647, 5, 0)");
        Run.town("r0;" + "a0 0 1 1 0;".repeat(8)).stays(Run.BAD, "place(256, 1, 0)", "place(257, 1, 0)", "place(-1, 1, 7)")
            .due("place(255, 1, 7)", 7);
    }

    @Says("there is no such thing")
    static void theFirstAndTheLastAnchor() {
        Run.town(TOWN).stays(Run.BAD, "place(7, 5, -1)", "place(7, 5, 3)", "place(7, 5, 8)", "place(7, 5, 31)", "place(7, 5, 32)");
        Run.town(TOWN).stays(Run.BAD, "place(1, 5, 2147483647)", "place(1, 5, -2147483648)", "place(1, 5, 64)");
    }

    @Says("PLACE for a set of ANCHORS (bits, all of which LIE) by f")
    static void fFrom1To99() {
        Run.town(TOWN).due("place(1, 1, 0)", 0).due("place(1, 99, 0)", Run.NONE);
        Run.town(TOWN).stays(Run.BAD, "place(1, 0, 0)", "place(1, 100, 0)", "place(1, -1, 0)", "place(1, 2147483647, 0)");
    }

    @Says("STATE: one of the set does not LIE.")
    static void oneOfTheSetIsUpOrLost() {
        Run x = Run.town(TOWN).does("hauls(0, 1)").stays(Run.STATE, "place(3, 5, 0)", "place(3, 5, 1)", "place(2, 5, 1)");
        x.due("place(5, 5, 0)", 0).due("place(5, 5, 2)", 1);
        Run.town(TOWN).does("storms(6, 0)").due("now(2)", 1).stays(Run.STATE, "place(1, 5, 0)", "place(3, 5, 1)", "place(7, 99, 2)");
    }

    @Says("the first of these: BAD (a number is not as told, or there is no such thing), STATE (as told), FULL.")
    static void badIsAheadOfState() {
        Run x = Run.town(TOWN).does("hauls(0, 1)").stays(Run.BAD, "place(3, 0, 0)", "place(3, 100, 1)", "place(2, 5, 0)");
        x.stays(Run.BAD, "place(10, 5, 1)", "place(-1, 5, 1)", "place(2, 5, 3)", "place(2, 5, -1)");
    }

    @Says("(Nothing is changed.)")
    static void nothingIsChanged() {
        Run.town(TOWN).does("year()", "hears(1, 1)").stays(2, "place(5, 13, 0)").stays(Run.NONE, "place(7, 13, 0)");
    }

    @Says("none where one LIES that is not of the set")
    static void noneWhereAnotherLiesInEachCell() {
        for (int cell = 0; cell < 10; cell++) {
            Run x = Run.town("c" + cell + " 1 3;r0;a0 " + cell + " 1 9 0;a0 " + (9 - cell) + " 1 9 0;").due("place(2, 13, 1)", Run.NONE);
            x.due("place(3, 13, 1)", Run.NONE).does("hauls(0, 0)").due("place(2, 13, 1)", cell).due("place(2, 5, 1)", 0);
        }
    }
}
