/** Promise 25: ask. */
public final class P25AskTest {
    /** Strengths: 2, 38, 7, 7. */
    private static final String TOWN = "c0 9 0;c1 1 3;c9 2 0;r0;a0 0 1 9 10;a0 1 2 30 20;a0 9 3 8 5;a0 9 3 8 5;";

    public static void main(String[] args) {
        Check.all(P25AskTest.class);
    }

    @Says("ASK: the f (1 .. 99) by which the greater part of these, that would hold it or that would not, is least")
    static void theGreaterPartIsLeast() {
        Run.town("r0;a0 0 1 3 0;a0 0 2 3 0;a0 0 4 3 0;a0 0 6 3 0;").due("ask()", 6);
        Run.town("r0;a0 0 1 3 0;a0 0 1 3 0;a0 0 1 3 0;a0 0 2 3 0;a0 0 6 3 0;").due("ask()", 4);
        Run.town("r0;a0 0 1 3 0;a0 0 2 3 0;a0 0 6 3 0;a0 0 6 3 0;a0 0 6 3 0;").due("ask()", 6);
    }

    @Says("of like ones the least")
    static void ofLikeOnesTheLeast() {
        Run.town("r0;a0 0 1 3 0;a0 0 6 3 0;").due("ask()", 4);
        Run.town("r0;a0 0 1 3 0;a0 0 2 3 0;a0 0 6 3 0;").due("ask()", 4);
        Run.town(TOWN).due("ask()", 3);
    }

    @Says("by which the greater part of these")
    static void ofThoseThatFitAlone() {
        Run.town(TOWN).does("hears(3, 1)").due("ask()", 8).does("hears(8, 0)").due("ask()", Run.NONE);
        Run.town(TOWN).does("hears(8, 0)").due("ask()", 3);
        Run.town(TOWN).does("hauls(0, 0)").due("ask()", 8);
    }

    @Says("NONE (fewer than 2 FIT, or none parts them)")
    static void fewerThan2Fit() {
        Run.town(TOWN).does("hears(8, 1)").due("fits()", 2).due("ask()", Run.NONE).does("hears(39, 1)").due("fits()", 0)
            .due("ask()", Run.NONE);
        Run.town("r0;a0 0 1 3 0;").due("fits()", 1).due("ask()", Run.NONE);
        Run.town("r0;").due("ask()", Run.NONE);
        Run.town("r0;a0 0 1 3 0;a0 0 2 3 0;").due("ask()", 4).does("hauls(0, 1)").due("ask()", Run.NONE);
    }

    @Says("NONE (fewer than 2 FIT, or none parts them)")
    static void noneParts() {
        Run.town("r0;a0 0 1 3 0;a0 5 1 5 0;").due("fits()", 3).due("ask()", Run.NONE).does("pays(1, 1)").due("ask()", 4);
        Run.town("r0;" + "a0 0 9 60 0;".repeat(8)).due("ask()", Run.NONE);
    }

    @Says("the f (1 .. 99)")
    static void theLeastAndMostThatPart() {
        Run.town("c0 9 0;r0;a0 0 1 1 0;a0 0 1 9 0;").due("ask()", 2);
        Run.town("c0 1 3;r0;a0 0 9 60 0;a0 0 9 59 0;").due("ask()", 96);
    }

    @Says("ASK; NONE.")
    static void nothingIsChanged() {
        Run.town(TOWN).does("hears(3, 1)", "year()").stays(8, "ask()");
    }
}
