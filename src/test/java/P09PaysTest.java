/** Promise 9: pays. */
public final class P09PaysTest {
    private static final String TOWN = "r0;a0 5 1 30 5;a0 0 1 1 9;a0 9 1 60 5;";

    public static void main(String[] args) {
        Check.all(P09PaysTest.class);
    }

    @Says({"PAID: LINKS of one that LIES are n more or less (-9 .. 9, not 0; 1 .. 60).", "PAID: LINKS then."})
    static void nMoreOrLess() {
        Run x = Run.town(TOWN).due("pays(0, 9)", 39).due("pays(0, -9)", 30).due("pays(0, 1)", 31).due("pays(0, -1)", 30);
        x.due("pays(0, 5)", 35).due("anchor(0, 3)", 35).due("anchor(1, 3)", 1).due("count(4)", 5);
    }

    @Says("(-9 .. 9, not 0; 1 .. 60)")
    static void nBeyond9AndN0() {
        Run.town(TOWN).stays(Run.BAD, "pays(0, 0)", "pays(0, 10)", "pays(0, -10)");
        Run.town(TOWN).stays(Run.BAD, "pays(0, 2147483647)", "pays(0, -2147483648)");
    }

    @Says("(-9 .. 9, not 0; 1 .. 60)")
    static void linksDownTo1() {
        Run x = Run.town("r0;a0 5 1 10 5;").due("pays(0, -9)", 1).stays(Run.STATE, "pays(0, -1)", "pays(0, -9)");
        x.due("anchor(0, 3)", 1).due("pays(0, 1)", 2).stays(Run.STATE, "pays(0, -2)").due("pays(0, -1)", 1);
    }

    @Says("(-9 .. 9, not 0; 1 .. 60)")
    static void linksUpTo60() {
        Run x = Run.town("r0;a0 5 1 51 5;").due("pays(0, 9)", 60).stays(Run.STATE, "pays(0, 1)", "pays(0, 9)");
        x.due("anchor(0, 3)", 60).due("pays(0, -1)", 59).stays(Run.STATE, "pays(0, 2)").due("pays(0, 1)", 60);
    }

    @Says("BAD; STATE: it does not LIE, LINKS would be beyond.")
    static void oneUpOrLost() {
        Run.town(TOWN).does("hauls(0, 0)").stays(Run.STATE, "pays(0, 1)", "pays(0, -9)").due("anchor(0, 3)", 30);
        Run.town(TOWN).does("storms(4, 0)").due("now(2)", 2).stays(Run.STATE, "pays(1, 1)").due("anchor(1, 3)", 1);
    }

    @Says("the first of these: BAD (a number is not as told, or there is no such thing), STATE (as told), FULL.")
    static void badIsAheadOfState() {
        Run.town(TOWN).does("hauls(0, 0)").stays(Run.BAD, "pays(0, 0)", "pays(0, 10)", "pays(0, -10)");
        Run.town(TOWN).does("storms(4, 0)").stays(Run.BAD, "pays(1, 0)", "pays(1, 10)", "pays(1, -10)");
        Run.town(TOWN).stays(Run.BAD, "pays(1, -10)", "pays(2, 10)", "pays(1, -2147483648)", "pays(2, 2147483647)");
    }

    @Says("there is no such thing")
    static void theFirstAndTheLastAnchor() {
        Run.town(TOWN).stays(Run.BAD, "pays(-1, 1)", "pays(3, 1)", "pays(7, 1)", "pays(8, 1)", "pays(2147483647, 1)");
        Run.town(TOWN).due("pays(2, -1)", 59).due("pays(1, 1)", 2);
    }
}
