/** Promise 22: hears. */
public final class P22HearsTest {
    private static final String TOWN = "r0;a0 5 1 3 0;a0 5 4 3 0;";

    public static void main(String[] args) {
        Check.all(P22HearsTest.class);
    }

    @Says({"HEARD (6 at most)", "HEARD: how much there is. BAD; FULL."})
    static void theSixthIsHeardAndTheSeventhIsFull() {
        Run x = new Run();
        for (int i = 1; i <= 6; i++) {
            x.due("hears(" + i + ", 1)", i).due("count(3)", i);
        }
        x.stays(Run.FULL, "hears(7, 1)", "hears(1, 0)").due("count(3)", 6).due("forget()", 6).due("hears(7, 1)", 1);
    }

    @Says("Refused, and nothing changes")
    static void theSeventhIsNotHeard() {
        Run.town(TOWN).does(6, "hears(3, 1)").stays(Run.FULL, "hears(9, 0)", "hears(99, 1)").due("fits()", 3).due("ask()", 4);
    }

    @Says("HEARD (6 at most)")
    static void theSixthCounts() {
        Run.town(TOWN).does(5, "hears(3, 1)").due("fits()", 3).due("hears(4, 1)", 6).due("fits()", 2);
        Run.town(TOWN).due("hears(4, 1)", 1).does(5, "hears(3, 1)").due("fits()", 2);
    }

    @Says("HEARD (6 at most)")
    static void theSameMayBeHeardAgain() {
        Run.town(TOWN).due("hears(9, 0)", 1).due("hears(9, 0)", 2).due("hears(9, 1)", 3).due("fits()", 0);
    }

    @Says("would hold f (1 .. 99) alone where it LIES (1), or not (0)")
    static void fFrom1To99() {
        new Run().due("hears(1, 0)", 1).due("hears(99, 1)", 2);
        Run.town(TOWN).stays(Run.BAD, "hears(0, 0)", "hears(100, 0)", "hears(-1, 1)", "hears(2147483647, 1)", "hears(100, 1)");
    }

    @Says("alone where it LIES (1), or not (0)")
    static void heldIs1Or0() {
        new Run().due("hears(5, 0)", 1).due("hears(5, 1)", 2);
        Run.town(TOWN).stays(Run.BAD, "hears(5, -1)", "hears(5, 2)", "hears(5, 2147483647)", "hears(5, -2147483648)");
    }

    @Says("the first of these: BAD (a number is not as told, or there is no such thing), STATE (as told), FULL.")
    static void badIsAheadOfFull() {
        new Run().does(6, "hears(3, 1)").stays(Run.BAD, "hears(0, 0)", "hears(100, 1)", "hears(3, 2)", "hears(3, -1)");
    }
}
