/** What could be, and which anchor it was: promises 16 to 25. */
public final class CouldBeTest {
    private static final String SHORE = "c0 9 0;c1 1 3;c9 2 0;r0;r0;a0 0 1 9 10;a0 1 2 30 20;a1 9 3 8 5;t0 1;";

    public static void main(String[] args) {
        needs();
        after();
        wreck();
        firstOfLikeWrecks();
        place();
        placeGoesBack();
        placeOfEight();
        vital();
        odds();
        hears();
        fits();
        ask();
        nothingIsChanged();
        Check.end();
    }

    private static void needs() {
        AnchorWills x = Check.town(SHORE);
        Check.due("needs(0, 1)", x.needs(0, 1), 1);
        Check.due("needs(0, 2)", x.needs(0, 2), 9);
        Check.due("needs(0, 7)", x.needs(0, 7), 54);
        Check.due("needs(0, 8)", x.needs(0, 8), -9);
        Check.due("needs(1, 8)", x.needs(1, 8), 1);
        Check.due("needs(1, 9)", x.needs(1, 9), 1);
        Check.due("needs(1, 10)", x.needs(1, 10), 2);
        Check.due("needs(1, 68)", x.needs(1, 68), 60);
        Check.due("needs(1, 69)", x.needs(1, 69), -9);
        Check.due("needs(3, 1)", x.needs(3, 1), -1);
        Check.due("needs(-1, 1)", x.needs(-1, 1), -1);
        Check.due("needs(0, 0)", x.needs(0, 0), -1);
        Check.due("needs(0, 100)", x.needs(0, 100), -1);
        x.hauls(0, 0);
        Check.due("needs(0, 1) of one up", x.needs(0, 1), -2);
        Check.due("needs(0, 0) of one up", x.needs(0, 0), -1);
    }

    private static void after() {
        AnchorWills x = Check.town(SHORE);
        Check.due("after(0, 2, 0) held", x.after(0, 2, 0), 0);
        Check.due("after(0, 3, 0) lost", x.after(0, 3, 0), -9);
        Check.due("after(0, 3, 1)", x.after(0, 3, 1), 1);
        Check.due("after(1, 39, 0)", x.after(1, 39, 0), 0);
        Check.due("after(2, 8, 1) lost", x.after(2, 8, 1), -9);
        Check.due("after(2, 8, 0)", x.after(2, 8, 0), 8);
        Check.due("after(3, 8, 0)", x.after(3, 8, 0), -1);
        Check.due("after(0, 0, 0)", x.after(0, 0, 0), -1);
        Check.due("after(0, 100, 0)", x.after(0, 100, 0), -1);
        Check.due("after(0, 1, 2)", x.after(0, 1, 2), -1);
        Check.due("after(0, 1, -1)", x.after(0, 1, -1), -1);
        x.hauls(0, 0);
        Check.due("after(0, 1, 0) of one up", x.after(0, 1, 0), -9);
        x.storms(8, 1);
        Check.due("after(2, 1, 0) of one lost", x.after(2, 1, 0), -9);
    }

    private static void wreck() {
        AnchorWills x = Check.town(SHORE);
        Check.due("wreck(99, 0, 0)", x.wreck(99, 0, 0), 0);
        Check.due("wreck(99, 0, 1)", x.wreck(99, 0, 1), 0);
        Check.due("wreck(99, 1, 0)", x.wreck(99, 1, 0), 1);
        Check.due("wreck(99, 2, 0)", x.wreck(99, 2, 0), 2);
        Check.due("wreck(99, 2, 1)", x.wreck(99, 2, 1), 0);
        Check.due("wreck(99, 3, 0) to the lower, then back is too late", x.wreck(99, 3, 0), 2);
        Check.due("wreck(99, 4, 0)", x.wreck(99, 4, 0), 3);
        Check.due("wreck(99, 4, 1): 1, 0, 0, 0", x.wreck(99, 4, 1), 1);
        Check.due("wreck(1, 4, 0) that all hold", x.wreck(1, 4, 0), 0);
        Check.due("wreck(1, 4, 1) that all hold", x.wreck(1, 4, 1), 0);
        Check.due("wreck(0, 1, 0)", x.wreck(0, 1, 0), -1);
        Check.due("wreck(100, 1, 0)", x.wreck(100, 1, 0), -1);
        Check.due("wreck(1, -1, 0)", x.wreck(1, -1, 0), -1);
        Check.due("wreck(1, 5, 0)", x.wreck(1, 5, 0), -1);
        Check.due("wreck(1, 1, -1)", x.wreck(1, 1, -1), -1);
        Check.due("wreck(1, 1, 2)", x.wreck(1, 1, 2), -1);
        x.storms(3, 0);
        Check.due("wreck(99, 1, 0) beyond the lost one", x.wreck(99, 1, 0), 1);
        Check.due("wreck(8, 1, 0)", x.wreck(8, 1, 0), 1);
        Check.due("wreck(8, 1, 1)", x.wreck(8, 1, 1), 1);
    }

    /** The town x has an anchor at the lower end and one a cell from the higher end, y two at the higher one. */
    private static void firstOfLikeWrecks() {
        AnchorWills x = Check.town("r0;a0 0 1 1 0;a0 8 1 1 0;");
        Check.due("wreck(9, 1, 1)", x.wreck(9, 1, 1), 0);
        Check.due("wreck(9, 2, 0)", x.wreck(9, 2, 0), 1);
        Check.due("wreck(9, 3, 0)", x.wreck(9, 3, 0), 1);
        Check.due("wreck(9, 4, 0)", x.wreck(9, 4, 0), 2);
        Check.due("wreck(9, 4, 1): 0, 1, 1, 1", x.wreck(9, 4, 1), 0b1110);
        AnchorWills y = Check.town("r0;a0 9 1 1 0;a0 9 1 1 0;a0 1 1 1 0;");
        Check.due("wreck(9, 2, 0)", y.wreck(9, 2, 0), 2);
        Check.due("wreck(9, 2, 1): 1, 0", y.wreck(9, 2, 1), 1);
        Check.due("wreck(9, 4, 0)", y.wreck(9, 4, 0), 3);
        Check.due("wreck(9, 4, 1): 1, 0, 0, 0", y.wreck(9, 4, 1), 1);
    }

    private static void place() {
        AnchorWills x = Check.town("c2 1 3;c6 1 3;r0;a0 0 1 9 0;a0 1 1 9 0;a0 2 1 9 0;");
        Check.due("place(3, 13, 0) where one of no set lies", x.place(3, 13, 0), -9);
        Check.due("place(1, 13, 0)", x.place(1, 13, 0), 6);
        Check.due("place(5, 13, 0)", x.place(5, 13, 0), 2);
        Check.due("place(5, 13, 2)", x.place(5, 13, 2), 6);
        Check.due("place(7, 13, 0)", x.place(7, 13, 0), -9);
        Check.due("place(3, 13, 1)", x.place(3, 13, 1), -9);
        Check.due("place(3, 5, 0)", x.place(3, 5, 0), 0);
        Check.due("place(3, 5, 1)", x.place(3, 5, 1), 1);
        Check.due("place(6, 5, 1) where one of no set lies", x.place(6, 5, 1), 1);
        Check.due("place(6, 5, 2)", x.place(6, 5, 2), 2);
        Check.due("place(0, 5, 0)", x.place(0, 5, 0), -1);
        Check.due("place(8, 5, 3)", x.place(8, 5, 3), -1);
        Check.due("place(9, 5, 0)", x.place(9, 5, 0), -1);
        Check.due("place(-1, 5, 0)", x.place(-1, 5, 0), -1);
        Check.due("place(1, 5, 1)", x.place(1, 5, 1), -1);
        Check.due("place(1, 0, 0)", x.place(1, 0, 0), -1);
        Check.due("place(1, 100, 0)", x.place(1, 100, 0), -1);
        Check.due("place(1, 5, -1)", x.place(1, 5, -1), -1);
        Check.due("place(1, 5, 99)", x.place(1, 5, 99), -1);
        x.hauls(0, 1);
        Check.due("place(3, 5, 0) with one up", x.place(3, 5, 0), -2);
        Check.due("place(3, 100, 0) with one up", x.place(3, 100, 0), -1);
        Check.due("place(5, 5, 2) where one did lie", x.place(5, 5, 2), 1);
    }

    /** 0 could lie in cell 0, too, but 1 holds nowhere else. */
    private static void placeGoesBack() {
        AnchorWills x = Check.town("c0 1 3;c5 2 0;r0;a0 3 2 20 0;a0 3 1 20 0;");
        Check.due("place(1, 11, 0)", x.place(1, 11, 0), 0);
        Check.due("place(2, 14, 1)", x.place(2, 14, 1), 0);
        Check.due("place(3, 24, 0)", x.place(3, 24, 0), -9);
        Check.due("place(3, 11, 0)", x.place(3, 11, 0), 0);
        Check.due("place(3, 11, 1)", x.place(3, 11, 1), 5);
        Check.due("place(3, 12, 0): 12 is held by 0 in 0 and 5", x.place(3, 12, 0), 5);
        Check.due("place(3, 12, 1)", x.place(3, 12, 1), 0);
        Check.due("place(3, 13, 0)", x.place(3, 13, 0), -9);
    }

    private static void placeOfEight() {
        StringBuilder text = new StringBuilder("c0 9 3;r0;");
        for (int a = 0; a < 8; a++) {
            text.append("a0 ").append(a).append(" 9 1 0;");
        }
        AnchorWills x = Check.town(text.toString());
        for (int a = 0; a < 8; a++) {
            Check.due("place(255, 18, " + a + ")", x.place(255, 18, a), a);
        }
        Check.due("place(255, 19, 0)", x.place(255, 19, 0), -9);
        Check.due("place(128, 19, 7) where one lies", x.place(128, 19, 7), -9);
        Check.due("place(129, 19, 7) with two", x.place(129, 19, 7), -9);
    }

    /** Strengths 1 + 1, 8 + 30, 3 + 4; the third raft is not of their town. */
    private static void vital() {
        AnchorWills x = Check.town(SHORE + "r2;a2 5 1 60 0;");
        Check.due("raft(0, 5)", x.raft(0, 5), 47);
        Check.due("vital(0, 47)", x.vital(0, 47), 7);
        Check.due("vital(1, 46)", x.vital(1, 46), 7);
        Check.due("vital(0, 45)", x.vital(0, 45), 0b110);
        Check.due("vital(0, 40)", x.vital(0, 40), 0b10);
        Check.due("vital(0, 41)", x.vital(0, 41), 0b110);
        Check.due("vital(0, 9)", x.vital(0, 9), 0);
        Check.due("vital(0, 10)", x.vital(0, 10), 0b10);
        Check.due("vital(0, 48) that it has not", x.vital(0, 48), 0);
        Check.due("vital(2, 22)", x.vital(2, 22), 0b1000);
        Check.due("vital(2, 23)", x.vital(2, 23), 0);
        Check.due("vital(3, 1)", x.vital(3, 1), -1);
        Check.due("vital(-1, 1)", x.vital(-1, 1), -1);
        Check.due("vital(0, 0)", x.vital(0, 0), -1);
        Check.due("vital(0, 100)", x.vital(0, 100), -1);
        x.dies(0);
        Check.due("vital(0, 47) of one gone", x.vital(0, 47), 7);
        x.hauls(2, 3);
        Check.due("vital(2, 22) with it up", x.vital(2, 22), 0);
    }

    /** Holds: 2, 38, 7. */
    private static void odds() {
        AnchorWills x = Check.town(SHORE);
        Check.due("odds(0, 10, 1, 0)", x.odds(0, 10, 1, 0), 1);
        Check.due("odds(0, 10, 1, 1)", x.odds(0, 10, 1, 1), 5);
        Check.due("odds(2, 99, 4, 0)", x.odds(2, 99, 4, 0), 2401);
        Check.due("odds(2, 99, 4, 1)", x.odds(2, 99, 4, 1), 96059601);
        Check.due("odds(1, 57, 3, 0)", x.odds(1, 57, 3, 0), 8);
        Check.due("odds(1, 57, 3, 1)", x.odds(1, 57, 3, 1), 27);
        Check.due("odds(1, 38, 4, 0)", x.odds(1, 38, 4, 0), 1);
        Check.due("odds(1, 38, 4, 1)", x.odds(1, 38, 4, 1), 1);
        Check.due("odds(1, 1, 4, 1)", x.odds(1, 1, 4, 1), 1);
        Check.due("odds(0, 99, 0, 0)", x.odds(0, 99, 0, 0), 1);
        Check.due("odds(0, 99, 0, 1)", x.odds(0, 99, 0, 1), 1);
        Check.due("odds(3, 1, 1, 0)", x.odds(3, 1, 1, 0), -1);
        Check.due("odds(-1, 1, 1, 0)", x.odds(-1, 1, 1, 0), -1);
        Check.due("odds(0, 0, 1, 0)", x.odds(0, 0, 1, 0), -1);
        Check.due("odds(0, 100, 1, 0)", x.odds(0, 100, 1, 0), -1);
        Check.due("odds(0, 1, -1, 0)", x.odds(0, 1, -1, 0), -1);
        Check.due("odds(0, 1, 5, 0)", x.odds(0, 1, 5, 0), -1);
        Check.due("odds(0, 1, 1, -1)", x.odds(0, 1, 1, -1), -1);
        Check.due("odds(0, 1, 1, 2)", x.odds(0, 1, 1, 2), -1);
        x.storms(3, 1);
        Check.due("odds(0, 99, 1, 0) fouled: 4 + 9 + 38", x.odds(0, 99, 1, 0), 17);
        Check.due("odds(0, 99, 1, 1)", x.odds(0, 99, 1, 1), 33);
        x.hauls(0, 0);
        Check.due("odds(0, 9, 1, 0) of one up", x.odds(0, 9, 1, 0), -2);
        Check.due("odds(0, 9, 1, 2) of one up", x.odds(0, 9, 1, 2), -1);
    }

    private static void hears() {
        AnchorWills x = new AnchorWills();
        Check.due("hears(0, 0)", x.hears(0, 0), -1);
        Check.due("hears(100, 0)", x.hears(100, 0), -1);
        Check.due("hears(1, 2)", x.hears(1, 2), -1);
        Check.due("hears(1, -1)", x.hears(1, -1), -1);
        for (int i = 1; i <= 6; i++) {
            Check.due("hears(99, 0)", x.hears(99, 0), i);
        }
        Check.due("hears(99, 0)", x.hears(99, 0), -3);
        Check.due("hears(0, 0)", x.hears(0, 0), -1);
        Check.due("count(3)", x.count(3), 6);
        Check.due("forget()", x.forget(), 6);
        Check.due("forget()", x.forget(), 0);
        Check.due("hears(1, 1)", x.hears(1, 1), 1);
    }

    /** Strengths: 2, 38, 7; fouled ones hold alone, too. */
    private static void fits() {
        AnchorWills x = Check.town(SHORE + "a1 9 3 8 5;");
        Check.due("fits()", x.fits(), 15);
        x.hears(7, 1);
        Check.due("fits() of 7 held", x.fits(), 0b1110);
        x.hears(38, 0);
        Check.due("fits() of 38 not held", x.fits(), 0b1100);
        x.hears(8, 1);
        Check.due("fits() of nothing", x.fits(), 0);
        x.forget();
        x.hears(38, 1);
        Check.due("fits() of 38 held", x.fits(), 0b10);
        x.hauls(0, 1);
        Check.due("fits() with it up", x.fits(), 0);
        x.undo();
        Check.due("fits() with it back", x.fits(), 0b10);
        Check.due("count(3) is not undone", x.count(3), 1);
    }

    private static void ask() {
        AnchorWills x = Check.town(SHORE + "a1 9 3 8 5;");
        Check.due("ask() of 2, 7, 7, 38", x.ask(), 3);
        x.hears(3, 1);
        Check.due("ask() of 7, 7, 38", x.ask(), 8);
        x.hears(8, 0);
        Check.due("ask() of 7, 7", x.ask(), -9);
        x.forget();
        x.hears(8, 1);
        Check.due("ask() of 38", x.ask(), -9);
        x.hears(39, 1);
        Check.due("ask() of nothing", x.ask(), -9);
        AnchorWills y = Check.town("r0;a0 0 1 3 0;a0 0 2 3 0;a0 0 4 3 0;a0 0 6 3 0;");
        Check.due("ask() of 3, 5, 9, 13", y.ask(), 6);
        y.hauls(0, 0);
        Check.due("ask() of 5, 9, 13", y.ask(), 6);
    }

    private static void nothingIsChanged() {
        AnchorWills x = Check.town(SHORE);
        x.needs(0, 7);
        x.after(0, 99, 0);
        x.wreck(99, 4, 0);
        x.place(7, 1, 0);
        x.vital(0, 47);
        x.odds(0, 9, 4, 0);
        x.fits();
        x.ask();
        Check.due("now(0)", x.now(0), 7);
        Check.due("anchor(0, 1)", x.anchor(0, 1), 0);
        Check.due("anchor(1, 1)", x.anchor(1, 1), 1);
        Check.due("anchor(2, 1)", x.anchor(2, 1), 9);
        Check.due("anchor(0, 3)", x.anchor(0, 3), 9);
        Check.due("count(4)", x.count(4), 0);
        Check.due("trace()", x.trace(), 0);
    }
}
