/** Promise 15: now. */
public final class P15NowTest {
    private static final String TOWN = "r0;r0;a0 5 9 20 50;a1 9 1 3 20;a0 5 9 9 8;";

    public static void main(String[] args) {
        Check.all(P15NowTest.class);
    }

    @Says("0 what LIES, 1 is UP, 2 LOST, 3 which RAFTS are GONE (bits), 4 WEALTH of all.")
    static void whatIsNow() {
        Run x = Run.town(TOWN).row("now(*)", 7, 0, 0, 0, 0).does("storms(4, 1)").row("now(*)", 5, 0, 2, 0, 0);
        x.does("hauls(0, 2)").row("now(*)", 1, 4, 2, 0, 8).does("dies(1)", "hauls(0, 0)").row("now(*)", 0, 5, 2, 2, 58);
        x.does("dies(0)").row("now(*)", 0, 5, 2, 3, 58).does("undo()").row("now(*)", 0, 5, 2, 2, 58);
    }

    @Says("4 WEALTH of all")
    static void wealthOfAllRaftsTogether() {
        Run x = Run.town("r0;r0;r0;r0;r0;r0;a0 0 1 1 1;a5 1 1 1 20;a3 2 1 1 30;").does("hauls(0, 0)", "hauls(5, 1)", "hauls(3, 2)");
        x.due("now(4)", 51).does("dies(5)").due("now(4)", 51);
    }

    @Says("0 what LIES, 1 is UP, 2 LOST")
    static void allEight() {
        Run x = Run.town("r0;" + "a0 0 1 1 0;".repeat(8)).row("now(*)", 255, 0, 0).does("storms(99, 0)").row("now(*)", 0, 0, 255);
        x.does("undo()").does("hauls(0, 0)", "hauls(0, 1)", "hauls(0, 2)", "hauls(0, 3)", "hauls(0, 4)", "hauls(0, 5)");
        x.does("hauls(0, 6)", "hauls(0, 7)").row("now(*)", 0, 255, 0);
    }

    @Says("3 which RAFTS are GONE (bits), 4 WEALTH of all. BAD.")
    static void whatFrom0To4() {
        Run.town(TOWN).stays(Run.BAD, "now(-1)", "now(5)", "now(2147483647)", "now(-2147483648)");
        new Run().stays(Run.BAD, "now(-1)", "now(5)");
    }
}
