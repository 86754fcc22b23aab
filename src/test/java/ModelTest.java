/** Long rows of calls, the same each time, on the class and on the model. */
public final class ModelTest {
    private static final int OBJECTS = 1200, CALLS = 512, PLACES = 300;
    private static final int[] ODD = {-1, 100, 256, 1 << 30, Integer.MAX_VALUE, Integer.MIN_VALUE, -10, 10, 6, 8};

    private static long seed = 20261119;

    public static void main(String[] args) {
        for (int i = 0; i < OBJECTS; i++) {
            run(new AnchorWills(), new Model(), i);
        }
        for (int i = 0; i < PLACES; i++) {
            places(new AnchorWills(), new Model(), i);
        }
        Check.end();
    }

    /** Knuth's numbers: no random source, and the same row in each run. */
    private static int upTo(int n) {
        seed = seed * 6364136223846793005L + 1442695040888963407L;
        return (int) ((seed >>> 33) % n);
    }

    private static int from(int low, int high) {
        return upTo(40) == 0 ? ODD[upTo(ODD.length)] : low + upTo(high - low + 1);
    }

    private static void run(AnchorWills x, Model y, int number) {
        int calls = 0;
        while (calls < CALLS) {
            if (calls == 0 || upTo(250) == 0) {
                calls += reads(x, y, number);
            }
            call(x, y, number);
            calls++;
        }
    }

    private static int reads(AnchorWills x, Model y, int number) {
        String text = text();
        for (int i = 0; i < text.length(); i++) {
            Check.due(number + " type", x.type(text.charAt(i)), y.type(text.charAt(i)));
        }
        int due = y.town();
        Check.due(number + " town of \"" + text + "\"", x.town(), due);
        if (due < 0 && upTo(2) == 0) {
            Check.due(number + " clear", x.clear(), y.clear());
        }
        return text.length() + 2;
    }

    private static String text() {
        StringBuilder text = new StringBuilder();
        int rafts = 1 + upTo(6);
        for (int r = 0; r < rafts; r++) {
            item(text, "r", r == 0 ? 0 : upTo(r + 1));
        }
        for (int i = upTo(4); i > 0; i--) {
            item(text, "c", upTo(10), 1 + upTo(9), upTo(4));
        }
        for (int i = upTo(9); i > 0; i--) {
            int x = upTo(3) == 0 ? upTo(10) : upTo(2) * 9 + upTo(2) - upTo(2);
            item(text, "a", upTo(rafts), Math.max(0, Math.min(9, x)), 1 + upTo(upTo(2) == 0 ? 9 : 2), 1 + upTo(60), upTo(100));
        }
        for (int i = upTo(5); i > 0 && rafts > 1; i--) {
            int a = upTo(rafts);
            item(text, "t", a, (a + 1 + upTo(rafts - 1)) % rafts);
        }
        if (text.length() > 200) {
            text.setLength(text.lastIndexOf(";", 199) + 1);
        }
        if (upTo(4) == 0) {
            spoil(text);
        }
        return text.toString();
    }

    private static void item(StringBuilder text, String letter, int... numbers) {
        text.append(letter);
        String between = "";
        for (int n : numbers) {
            text.append(between).append(n);
            between = upTo(20) == 0 ? "  " : " ";
        }
        text.append(upTo(20) == 0 ? " ; " : ";");
    }

    private static void spoil(StringBuilder text) {
        String others = "0123456789 ;crat xA" + (char) 0 + (char) 255;
        int at = upTo(text.length());
        switch (upTo(4)) {
            case 0 -> text.setLength(at);
            case 1 -> text.deleteCharAt(at);
            case 2 -> text.insert(at, others.charAt(upTo(others.length())));
            default -> text.setCharAt(at, others.charAt(upTo(others.length())));
        }
    }

    /** Cells of many strengths, so that a way is found only by going back, or not at all. */
    private static void places(AnchorWills x, Model y, int number) {
        StringBuilder text = new StringBuilder();
        item(text, "r", 0);
        int anchors = 3 + upTo(6);
        for (int a = 0; a < anchors; a++) {
            item(text, "a", 0, upTo(10), 1 + upTo(4), 1 + upTo(20), 0);
        }
        for (int cell = 0; cell < 10 && text.length() < 188; cell++) {
            item(text, "c", cell, 1 + upTo(9), upTo(4));
        }
        for (int i = 0; i < text.length(); i++) {
            x.type(text.charAt(i));
            y.type(text.charAt(i));
        }
        Check.due(number + " town of \"" + text + "\"", x.town(), y.town());
        for (int f = 2; f < 26; f++) {
            int set = (1 << anchors) - 1 & ~(1 << upTo(2 * anchors));
            for (int a = 0; a < anchors; a++) {
                Check.due(number + " place " + set + " " + f + " " + a, x.place(set, f, a), y.place(set, f, a));
            }
        }
    }

    private static void call(AnchorWills x, Model y, int number) {
        switch (upTo(4)) {
            case 0 -> looks(x, y, number);
            case 1 -> does(x, y, number);
            case 2 -> couldBe(x, y, number);
            default -> others(x, y, number);
        }
    }

    private static void looks(AnchorWills x, Model y, int number) {
        int what = from(0, 8);
        int which = from(0, 7);
        switch (upTo(4)) {
            case 0 -> Check.due(number + " cell " + which + " " + what % 3, x.cell(which, what % 3), y.cell(which, what % 3));
            case 1 -> Check.due(number + " raft " + which + " " + what, x.raft(which % 6, what), y.raft(which % 6, what));
            case 2 -> Check.due(number + " anchor " + which + " " + what, x.anchor(which, what), y.anchor(which, what));
            default -> Check.due(number + " now " + what, x.now(what % 5), y.now(what % 5));
        }
    }

    private static void does(AnchorWills x, Model y, int number) {
        int r = from(0, 5);
        int a = from(0, 7);
        int f = from(1, upTo(3) == 0 ? 99 : 30);
        int n = from(-9, 9);
        int side = from(0, 1);
        int next = from(0, 5);
        switch (upTo(12)) {
            case 0, 1 -> Check.due(number + " storms " + f + " " + side, x.storms(f, side), y.storms(f, side));
            case 2, 3 -> Check.due(number + " pays " + a + " " + n, x.pays(a, n), y.pays(a, n));
            case 4 -> Check.due(number + " dies " + r, x.dies(r), y.dies(r));
            case 5 -> Check.due(number + " wills " + r + " " + next, x.wills(r, next), y.wills(r, next));
            case 6 -> Check.due(number + " year", x.year(), y.year());
            case 7 -> Check.due(number + " hauls " + r + " " + a, x.hauls(r, a), y.hauls(r, a));
            case 8 -> {
                int own = y.anchor(a, 8);
                Check.due(number + " hauls " + own + " " + a, x.hauls(own, a), y.hauls(own, a));
            }
            default -> Check.due(number + " undo", x.undo(), y.undo());
        }
    }

    private static void couldBe(AnchorWills x, Model y, int number) {
        int a = from(0, 7);
        int f = from(1, upTo(3) == 0 ? 99 : 40);
        int n = from(0, 4);
        int what = from(0, 1);
        int set = upTo(2) == 0 ? y.now(0) : from(0, 255) & y.now(0) | upTo(20) / 19 * upTo(300);
        switch (upTo(7)) {
            case 0 -> Check.due(number + " needs " + a + " " + f, x.needs(a, f), y.needs(a, f));
            case 1 -> Check.due(number + " after " + a + " " + f + " " + what, x.after(a, f, what), y.after(a, f, what));
            case 2 -> Check.due(number + " wreck " + f + " " + n + " " + what, x.wreck(f, n, what), y.wreck(f, n, what));
            case 3 -> Check.due(number + " place " + set + " " + f + " " + a, x.place(set, f, a), y.place(set, f, a));
            case 4 -> Check.due(number + " vital " + n + " " + f, x.vital(n, f), y.vital(n, f));
            case 5 -> Check.due(number + " vital at once", x.vital(n, y.raft(n, 5)), y.vital(n, y.raft(n, 5)));
            default -> Check.due(number + " odds " + a + " " + f + " " + n + " " + what, x.odds(a, f, n, what), y.odds(a, f, n, what));
        }
    }

    private static void others(AnchorWills x, Model y, int number) {
        int kind = from(0, 5);
        int a = from(0, 7);
        int f = from(1, 40);
        int what = from(0, 1);
        switch (upTo(12)) {
            case 0, 1 -> Check.due(number + " hears " + f + " " + what, x.hears(f, what), y.hears(f, what));
            case 2 -> Check.due(number + " forget", x.forget(), y.forget());
            case 3 -> Check.due(number + " fits", x.fits(), y.fits());
            case 4, 5 -> Check.due(number + " ask", x.ask(), y.ask());
            case 6, 7 -> Check.due(number + " mark " + kind + " " + a, x.mark(kind, a), y.mark(kind, a));
            case 8 -> Check.due(number + " keep " + what, x.keep(what), y.keep(what));
            case 9 -> Check.due(number + " back " + what, x.back(what), y.back(what));
            case 10 -> Check.due(number + " count " + kind, x.count(kind), y.count(kind));
            default -> Check.due(number + " trace", x.trace(), y.trace());
        }
    }
}
