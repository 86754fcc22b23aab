/** Promise 29: count. */
public final class P29CountTest {
    public static void main(String[] args) {
        Check.all(P29CountTest.class);
    }

    @Says("0 RAFTS, 1 ANCHORS, 2 ROPES, 3 HEARD, 4 how many may be UNDONE, 5 bytes of THE TEXT.")
    static void eachCount() {
        Run x = Run.town("r0;r0;r0;a0 1 1 1 1;a0 0 1 1 1;t0 1;t1 2;t2 0;t0 2;").row("count(*)", 3, 2, 3, 0, 0, 0);
        x.does("hears(1, 1)").does(4, "year()").types("r0;a0").row("count(*)", 3, 2, 3, 1, 4, 5);
        x.does("undo()", "forget()", "clear()").row("count(*)", 3, 2, 3, 0, 3, 0);
    }

    @Says("0 RAFTS, 1 ANCHORS, 2 ROPES")
    static void thoseGoneUpOrLostCount() {
        Run x = Run.town("r0;r0;a0 1 1 1 1;a0 9 1 1 1;t0 1;").does("hauls(0, 0)", "storms(99, 1)", "dies(0)", "dies(1)");
        x.row("count(*)", 2, 2, 1, 0, 4, 0);
    }

    @Says({"RAFTS 0 .. (6 at most)", "ANCHORS 0 .. (8 at most)", "HEARD (6 at most)", "(10 are known", "(200 bytes at most)"})
    static void theMostOfEach() {
        Run x = Run.town("r0;r0;r0;r0;r0;r0;" + "a0 0 1 1 0;".repeat(8)).does(7, "hears(1, 1)").does(11, "year()");
        x.does(201, "type(32)").row("count(*)", 6, 8, 0, 6, 10, 200);
    }

    @Says("5 bytes of THE TEXT. BAD.")
    static void whatFrom0To5() {
        Run.town("r0;").stays(Run.BAD, "count(-1)", "count(6)", "count(2147483647)", "count(-2147483648)");
        new Run().stays(Run.BAD, "count(-1)", "count(6)");
    }
}
