/** Promise 2: type. */
public final class P02TypeTest {
    public static void main(String[] args) {
        Check.all(P02TypeTest.class);
    }

    @Says("A byte (0 .. 255) comes to THE TEXT: how many it has.")
    static void aByteFrom0To255() {
        new Run().due("type(0)", 1).due("type(1)", 2).due("type(254)", 3).due("type(255)", 4).due("count(5)", 4);
        new Run().stays(Run.BAD, "type(-1)", "type(256)");
        new Run().types("r0;").stays(Run.BAD, "type(-2147483648)", "type(2147483647)", "type(-256)", "type(512)");
    }

    @Says("A byte (0 .. 255) comes to THE TEXT: how many it has.")
    static void everyByteComes() {
        Run x = new Run();
        for (int c = 0; c < 200; c++) {
            x.due("type(" + c + ")", c + 1);
        }
        x.due("clear()", 200);
        for (int c = 200; c < 256; c++) {
            x.due("type(" + c + ")", c - 199);
        }
    }

    @Says("They are a text (200 bytes at most)")
    static void the200thByteComesAndThe201stIsFull() {
        Run x = new Run().types(" ".repeat(199)).due("count(5)", 199).due("type(32)", 200);
        x.due("type(32)", Run.FULL).due("count(5)", 200).due("type(114)", Run.FULL).due("count(5)", 200);
        x.due("town()", 0).due("type(32)", 1);
    }

    @Says("They are a text (200 bytes at most)")
    static void the200thByteIsReadAndThe201stIsNot() {
        new Run().types(" ".repeat(197) + "r0;").due("type(120)", Run.FULL).due("town()", 1).due("count(0)", 1);
        new Run().types(" ".repeat(198) + "r0").due("type(59)", Run.FULL).due("town()", -210).due("count(0)", 0);
    }

    @Says("Refused, and nothing changes, the first of these: BAD (a number is not as told, or there is no such thing),"
        + " STATE (as told), FULL.")
    static void badIsAheadOfFull() {
        Run x = new Run().types(" ".repeat(200));
        x.due("type(256)", Run.BAD).due("type(-1)", Run.BAD).due("type(255)", Run.FULL).due("type(0)", Run.FULL);
        x.due("count(5)", 200);
    }

    @Says("Refused, and nothing changes")
    static void fullChangesNothing() {
        new Run().types("r0;" + " ".repeat(197)).stays(Run.FULL, "type(59)", "type(0)");
    }

    @Says("They are a text (200 bytes at most), read byte by byte,")
    static void bytesAreOneTextWhateverIsCalledBetween() {
        Run x = new Run().types("c9").due("count(5)", 2).types(" 9").due("year()", 0).types(" 3").due("town()", -16).types(";");
        x.types("r").due("undo()", 0).types("0;a").does("forget()", "keep(0)").types("0 9 1 5").due("cell(9, 0)", 3);
        x.types("7 1").does("back(0)", "mark(0, 0)", "type(256)", "town()").types("0;").due("town()", 3);
        x.row("anchor(0, *)", 0, 9, 1, 57, 10).row("cell(9, *)", 9, 3, 1);
    }

    @Says("BAD; FULL.")
    static void badOfAnEmptyAndFullOfAFullText() {
        new Run().stays(Run.BAD, "type(256)").types(" ".repeat(200)).stays(Run.FULL, "type(255)").stays(Run.BAD, "type(256)");
    }
}
