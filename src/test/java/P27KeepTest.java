/** Promise 27: keep. */
public final class P27KeepTest {
    private static final String TOWN = "r0;r0;a0 4 3 10 20;a1 9 1 6 30;";

    public static void main(String[] args) {
        Check.all(P27KeepTest.class);
    }

    @Says("An IMAGE is kept: what LIES (bits). BAD.")
    static void whatLies() {
        Run x = Run.town(TOWN).due("keep(0)", 3).does("hauls(0, 0)").due("keep(1)", 2).does("storms(99, 1)").due("keep(1)", 0);
        x.due("back(0)", 3).due("back(1)", 0);
        Run.town("r0;" + "a0 0 1 1 0;".repeat(8)).due("keep(0)", 255);
        new Run().due("keep(0)", 0).due("keep(1)", 0);
    }

    @Says("IMAGES 0, 1 keep NOW")
    static void images0And1() {
        Run.town(TOWN).does("keep(0)", "year()").stays(Run.BAD, "keep(-1)", "keep(2)", "keep(2147483647)", "keep(-2147483648)");
        Run.town(TOWN).stays(Run.BAD, "keep(-1)", "keep(2)").due("back(0)", Run.STATE).due("back(1)", Run.STATE);
    }

    @Says("IMAGES 0, 1 keep NOW")
    static void eachForItself() {
        Run x = Run.town(TOWN).due("keep(0)", 3).due("back(1)", Run.STATE).does("year()").due("keep(1)", 3).does("year()");
        x.due("back(0)", 3).due("anchor(0, 5)", 0).due("back(1)", 3).due("anchor(0, 5)", 1).due("back(0)", 3);
        x.due("anchor(0, 5)", 0);
    }

    @Says("An IMAGE is kept")
    static void keptAnewIsTheLater() {
        Run x = Run.town(TOWN).does("keep(0)", "year()", "keep(0)", "year()", "back(0)").due("anchor(0, 5)", 1).due("count(4)", 1);
        x.does("undo()", "keep(0)", "year()", "year()", "back(0)").due("anchor(0, 5)", 0).due("count(4)", 0);
    }

    @Says("An IMAGE is kept")
    static void whatIsDoneBehindItIsNotOfIt() {
        Run x = Run.town(TOWN).does("year()", "keep(0)").does("undo()", "pays(0, 5)", "pays(0, 4)").due("back(0)", 3);
        x.due("anchor(0, 5)", 1).due("anchor(0, 3)", 10).due("count(4)", 1).due("undo()", 0).due("anchor(0, 5)", 0);
        x.due("anchor(0, 3)", 10).due("anchor(1, 1)", 9);
    }

    @Says("IMAGES 0, 1 keep NOW")
    static void nothingElseChanges() {
        Run x = Run.town(TOWN).does("year()", "hears(3, 1)", "mark(0, 0)", "type(99)").due("keep(1)", 3);
        x.row("count(*)", 2, 2, 0, 1, 1, 1).due("trace()", 1).due("undo()", 0);
    }
}
