/** Promise 12: year. */
public final class P12YearTest {
    public static void main(String[] args) {
        Check.all(P12YearTest.class);
    }

    @Says("YEAR: AGES of all that LIE, together (behind it).")
    static void agesBehindIt() {
        Run x = Run.town("r0;a0 1 1 1 1;a0 2 1 1 1;a0 3 1 1 1;").due("year()", 3).due("year()", 6);
        x.due("anchor(0, 5)", 2).due("anchor(2, 5)", 2).due("undo()", 1).due("anchor(2, 5)", 1).due("year()", 6);
        Run.town("r0;" + "a0 0 1 1 0;".repeat(8)).due("year()", 8);
    }

    @Says("YEAR: AGE of each that LIES is 1 more (99 at most).")
    static void thoseUpOrLostDoNotAge() {
        Run x = Run.town("r0;a0 1 1 1 1;a0 9 1 1 1;a0 5 1 1 1;").due("year()", 3).does("hauls(0, 0)").due("year()", 4);
        x.due("storms(99, 1)", 1).due("year()", 3).due("anchor(0, 5)", 1).due("anchor(1, 5)", 2).due("anchor(2, 5)", 3);
    }

    @Says("YEAR: AGE of each that LIES is 1 more (99 at most).")
    static void ageIs99AtMost() {
        Run x = Run.town("r0;a0 1 1 1 99;a0 2 1 1 1;").does(97, "year()").does("hauls(0, 1)").due("year()", 98);
        x.due("raft(0, 3)", 1).due("year()", 99).due("anchor(0, 5)", 99).due("raft(0, 3)", 0).due("year()", 99);
        x.due("anchor(0, 5)", 99).due("anchor(1, 5)", 97).due("mark(2, 0)", 2 - 99).does("hauls(0, 0)").due("year()", 0);
    }

    @Says("YEAR: AGES of all that LIE, together (behind it).")
    static void noneThatLies() {
        Run.town("r0;a0 0 1 1 1;").does("hauls(0, 0)").due("year()", 0).due("count(4)", 2).due("anchor(0, 5)", 0);
        new Run().due("year()", 0).due("count(4)", 1);
    }
}
