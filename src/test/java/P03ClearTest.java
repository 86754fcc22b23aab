/** Promise 3: clear. */
public final class P03ClearTest {
    public static void main(String[] args) {
        Check.all(P03ClearTest.class);
    }

    @Says("THE TEXT is empty: how many bytes it had.")
    static void howManyBytesItHad() {
        Run x = new Run().due("clear()", 0).due("type(99)", 1).due("clear()", 1).due("clear()", 0).due("count(5)", 0);
        x.types(" ".repeat(200)).due("type(32)", Run.FULL).due("clear()", 200).due("count(5)", 0).due("type(32)", 1);
    }

    @Says("THE TEXT is empty")
    static void whatWasTypedIsNotRead() {
        new Run().types("r0").due("clear()", 2).types(";").due("town()", -10);
        new Run().types("x").due("clear()", 1).due("town()", 0);
    }

    @Says("nothing changes (THE TEXT, too, stays)")
    static void aFaultyTextIsCleared() {
        new Run().types("r0;x").due("town()", -13).due("clear()", 4).due("clear()", 0).due("town()", 0);
    }

    @Says("THE TEXT is empty")
    static void nothingElseChanges() {
        Run x = Run.town("r0;a0 9 1 1 9;").does("year()", "hears(1, 1)", "keep(1)", "mark(0, 0)");
        x.stays(0, "clear()");
        x.types("c0 1 1;").due("clear()", 7).due("cell(0, 0)", 3).row("count(*)", 1, 1, 0, 1, 1, 0).due("back(1)", 1);
    }
}
