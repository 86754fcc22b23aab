/** Promise 24: fits. */
public final class P24FitsTest {
    /** Strengths: 2, 38, 7, 7; the last two foul one another. */
    private static final String TOWN = "c0 9 0;c1 1 3;c9 2 0;r0;a0 0 1 9 10;a0 1 2 30 20;a0 9 3 8 5;a0 9 3 8 5;";

    public static void main(String[] args) {
        Check.all(P24FitsTest.class);
    }

    @Says("FITS: ANCHORS (bits) that LIE by which all that was HEARD is so (STRENGTH f or more, or less).")
    static void strengthThatIsJustFAndBesideIt() {
        Run.town(TOWN).does("hears(6, 1)").due("fits()", 14);
        Run.town(TOWN).does("hears(7, 1)").due("fits()", 14);
        Run.town(TOWN).does("hears(8, 1)").due("fits()", 2);
        Run.town(TOWN).does("hears(6, 0)").due("fits()", 1);
        Run.town(TOWN).does("hears(7, 0)").due("fits()", 1);
        Run.town(TOWN).does("hears(8, 0)").due("fits()", 13);
    }

    @Says("an unknown ANCHOR would hold f (1 .. 99) alone where it LIES (1), or not (0)")
    static void f1AndF99() {
        Run.town("c5 9 0;r0;a0 5 1 1 0;").does("hears(1, 1)").due("fits()", 1).does("hears(1, 0)").due("fits()", 0);
        Run.town("c5 1 3;r0;a0 5 9 60 0;").does("hears(99, 0)", "hears(96, 1)").due("fits()", 1).does("hears(97, 1)").due("fits()", 0);
    }

    @Says("by which all that was HEARD is so")
    static void allThatWasHeard() {
        Run x = Run.town(TOWN).due("fits()", 15).does("hears(3, 1)").due("fits()", 14).does("hears(38, 0)").due("fits()", 12);
        x.does("hears(8, 1)").due("fits()", 0).does("forget()").due("fits()", 15);
    }

    @Says("alone where it LIES")
    static void theFouledAloneAsWell() {
        Run.town(TOWN).due("anchor(2, 7)", 14).does("hears(8, 1)").due("fits()", 2);
    }

    @Says("ANCHORS (bits) that LIE")
    static void thoseUpOrLostDoNotFit() {
        Run x = Run.town(TOWN).does("hears(1, 1)", "hauls(0, 1)").due("fits()", 13).does("storms(3, 0)").due("fits()", 12);
        x.does("undo()", "undo()").due("fits()", 15);
        Run.town(TOWN).does("hauls(0, 1)").due("fits()", 13).does("hears(99, 0)").due("fits()", 13);
    }

    @Says("alone where it LIES")
    static void whereItLiesNow() {
        Run x = Run.town(TOWN).does("hears(8, 1)").due("fits()", 2).does("storms(99, 1)").due("fits()", 2 + 1);
        x.does("pays(0, -9)").due("fits()", 2 + 1).due("anchor(0, 3)", 9);
        Run.town(TOWN).does("hears(8, 1)", "pays(2, 2)").due("fits()", 6);
    }

    @Says("FITS, as bits.")
    static void nothingIsChanged() {
        Run.town(TOWN).does("hears(3, 1)", "year()").stays(14, "fits()");
    }
}
