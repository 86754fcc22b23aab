/** Promise 21: odds. */
public final class P21OddsTest {
    /** Holds: 2, 38, 7. */
    private static final String TOWN = "c0 9 0;c1 1 3;c9 2 0;r0;r0;a0 0 1 9 10;a0 1 2 30 20;a1 9 3 8 5;t0 1;";

    public static void main(String[] args) {
        Check.all(P21OddsTest.class);
    }

    private static void odds(Run x, String of, long upper, long lower) {
        x.due("odds(" + of + ", 0)", upper).due("odds(" + of + ", 1)", lower);
    }

    @Says({"f is each of 1 .. m as likely in each of n STORMS, each for itself: that all are HOLD or less: a fraction",
        "ODDS: upper (what = 0), lower number (1), in least terms."})
    static void aFractionInLeastTerms() {
        odds(Run.town(TOWN), "0, 10, 1", 1, 5);
        odds(Run.town(TOWN), "0, 10, 3", 1, 125);
        odds(Run.town(TOWN), "1, 57, 3", 8, 27);
        odds(Run.town(TOWN), "1, 99, 1", 38, 99);
        odds(Run.town(TOWN), "2, 14, 4", 1, 16);
        odds(Run.town(TOWN), "2, 98, 2", 1, 196);
    }

    @Says("that all are HOLD or less")
    static void mThatIsJustHoldAndOneMore() {
        odds(Run.town(TOWN), "2, 6, 4", 1, 1);
        odds(Run.town(TOWN), "2, 7, 4", 1, 1);
        odds(Run.town(TOWN), "2, 8, 1", 7, 8);
        odds(Run.town(TOWN), "2, 8, 4", 2401, 4096);
        odds(Run.town("c5 9 0;r0;a0 5 1 1 0;"), "0, 1, 4", 1, 1);
        odds(Run.town("c5 9 0;r0;a0 5 1 1 0;"), "0, 2, 4", 1, 16);
    }

    @Says("ODDS of an ANCHOR that LIES by m (1 .. 99), n (0 .. 4)")
    static void mFrom1To99() {
        odds(Run.town(TOWN), "0, 1, 4", 1, 1);
        odds(Run.town(TOWN), "0, 99, 1", 2, 99);
        odds(Run.town(TOWN), "2, 99, 4", 2401, 96059601);
        Run.town(TOWN).stays(Run.BAD, "odds(0, 0, 1, 0)", "odds(0, 100, 1, 0)", "odds(0, 0, 0, 1)", "odds(0, -1, 1, 0)");
        Run.town(TOWN).stays(Run.BAD, "odds(0, 2147483647, 1, 0)", "odds(0, -2147483648, 1, 1)");
    }

    @Says("(n 0: 1 by 1)")
    static void n0Is1By1() {
        odds(Run.town(TOWN), "0, 99, 0", 1, 1);
        odds(Run.town(TOWN), "1, 1, 0", 1, 1);
    }

    @Says("ODDS of an ANCHOR that LIES by m (1 .. 99), n (0 .. 4)")
    static void nFrom0To4() {
        odds(Run.town(TOWN), "0, 99, 2", 4, 9801);
        odds(Run.town(TOWN), "0, 99, 3", 8, 970299);
        odds(Run.town(TOWN), "0, 99, 4", 16, 96059601);
        Run.town(TOWN).stays(Run.BAD, "odds(0, 9, -1, 0)", "odds(0, 9, 5, 0)", "odds(0, 9, 2147483647, 1)");
    }

    @Says("HOLD of one that LIES: STRENGTHS of all that LIE in its CELL, together (they are FOULED).")
    static void ofTheFouled() {
        Run x = Run.town("r0;a0 5 1 3 0;a0 5 1 6 0;");
        odds(x, "0, 14, 1", 1, 2);
        odds(x, "1, 14, 2", 1, 4);
        odds(Run.town("r0;" + "a0 5 9 60 0;".repeat(8)), "7, 99, 4", 1, 1);
    }

    @Says("upper (what = 0), lower number (1), in least terms. BAD; STATE: it does not LIE.")
    static void whatIs0Or1() {
        Run.town(TOWN).stays(Run.BAD, "odds(0, 9, 1, -1)", "odds(0, 9, 1, 2)", "odds(0, 9, 0, 2)", "odds(0, 9, 1, 2147483647)");
    }

    @Says("upper (what = 0), lower number (1), in least terms. BAD; STATE: it does not LIE.")
    static void oneUpOrLost() {
        Run.town(TOWN).does("hauls(0, 0)").stays(Run.STATE, "odds(0, 9, 1, 0)", "odds(0, 9, 0, 1)");
        Run.town(TOWN).does("storms(8, 1)").due("now(2)", 4).stays(Run.STATE, "odds(2, 9, 1, 0)", "odds(2, 1, 0, 0)");
    }

    @Says("the first of these: BAD (a number is not as told, or there is no such thing), STATE (as told), FULL.")
    static void badIsAheadOfState() {
        Run x = Run.town(TOWN).does("hauls(0, 0)").stays(Run.BAD, "odds(0, 0, 1, 0)", "odds(0, 100, 1, 0)");
        x.stays(Run.BAD, "odds(0, 9, -1, 0)", "odds(0, 9, 5, 0)", "odds(0, 9, 1, 2)", "odds(0, 9, 1, -1)");
    }

    @Says("there is no such thing")
    static void theFirstAndTheLastAnchor() {
        Run.town(TOWN).stays(Run.BAD, "odds(-1, 9, 1, 0)", "odds(3, 9, 1, 0)", "odds(8, 9, 1, 0)", "odds(2147483647, 9, 1, 0)");
    }

    @Says("(Nothing is changed.)")
    static void nothingIsChanged() {
        Run.town(TOWN).does("year()").stays(16, "odds(0, 99, 4, 0)").stays(96059601, "odds(0, 99, 4, 1)");
    }
}
