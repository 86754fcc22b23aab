/** Counts answers that are not the due ones, and ends the program by that. */
final class Check {
    private static int asked = 0;
    private static int wrong = 0;

    private Check() {
    }

    static void due(String call, long got, long want) {
        asked++;
        if (got != want) {
            wrong++;
            System.out.println(call + " answered " + got + ", due is " + want);
        }
    }

    static void type(AnchorWills x, String text) {
        for (int i = 0; i < text.length(); i++) {
            due("type(" + (int) text.charAt(i) + ") of \"" + text + "\"", x.type(text.charAt(i)), i + 1);
        }
    }

    /** A new object that has read a sound text. */
    static AnchorWills town(String text) {
        AnchorWills x = new AnchorWills();
        reads(x, text);
        return x;
    }

    static void reads(AnchorWills x, String text) {
        type(x, text);
        int items = (int) text.chars().filter(c -> c == ';').count();
        due("town() of \"" + text + "\"", x.town(), items);
    }

    static void end() {
        System.out.println(asked + " answers looked at, " + wrong + " wrong");
        if (wrong != 0) {
            System.exit(1);
        }
    }
}
