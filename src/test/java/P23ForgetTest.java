/** Promise 23: forget. */
public final class P23ForgetTest {
    public static void main(String[] args) {
        Check.all(P23ForgetTest.class);
    }

    @Says("Nothing was HEARD: how much was.")
    static void howMuchWas() {
        new Run().due("forget()", 0).due("hears(1, 1)", 1).due("forget()", 1).due("forget()", 0).due("count(3)", 0);
        new Run().does(6, "hears(1, 1)").due("hears(1, 1)", Run.FULL).due("forget()", 6).due("hears(1, 1)", 1);
    }

    @Says("Nothing was HEARD")
    static void allFitAgain() {
        Run x = Run.town("r0;a0 5 1 3 0;a0 5 4 3 0;").does("hears(99, 1)", "hears(4, 1)").due("fits()", 0).due("forget()", 2);
        x.due("fits()", 3).due("hears(4, 0)", 1).due("fits()", 1);
    }

    @Says("Nothing was HEARD")
    static void nothingElseChanges() {
        Run x = Run.town("r0;a0 5 1 3 0;").does("year()", "keep(0)", "mark(0, 0)", "type(99)").stays(0, "forget()");
        x.due("hears(1, 0)", 1).due("forget()", 1).row("count(*)", 1, 1, 0, 0, 1, 1).due("trace()", 1).due("back(0)", 1);
    }
}
