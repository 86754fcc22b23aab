import java.lang.reflect.InvocationTargetException;
import java.lang.reflect.Method;
import java.util.ArrayList;
import java.util.Arrays;
import java.util.List;

/** One object, whose calls are written as the document writes them: "storms(5, 0)". */
final class Run {
    static final int BAD = -1, STATE = -2, FULL = -3, NONE = -9, NO = -1000000;
    static final int MIN = Integer.MIN_VALUE, MAX = Integer.MAX_VALUE;

    /** Nothing is promised of an object beyond these. */
    private static final int CALLS = 512;

    private final AnchorWills object = new AnchorWills();
    private final List<String> calls = new ArrayList<>();

    /** An object that has read a sound text. */
    static Run town(String text) {
        return new Run().reads(text);
    }

    long answer(String call) {
        calls.add(call);
        if (calls.size() > CALLS) {
            throw new IllegalStateException("more than " + CALLS + " calls: " + calls);
        }
        String[] parts = call.split("[(, )]+");
        Integer[] numbers = Arrays.stream(parts).skip(1).map(Integer::valueOf).toArray(Integer[]::new);
        Class<?>[] types = new Class<?>[numbers.length];
        Arrays.fill(types, int.class);
        try {
            Method method = AnchorWills.class.getMethod(parts[0], types);
            return ((Number) method.invoke(object, (Object[]) numbers)).longValue();
        } catch (InvocationTargetException e) {
            throw new IllegalStateException(call + " threw behind " + calls, e.getCause());
        } catch (NoSuchMethodException | IllegalAccessException e) {
            throw new IllegalStateException(call, e);
        }
    }

    Run due(String call, long want) {
        Check.due(call, answer(call), want);
        return this;
    }

    Run does(String... more) {
        for (String call : more) {
            answer(call);
        }
        return this;
    }

    Run does(int times, String call) {
        for (int i = 0; i < times; i++) {
            answer(call);
        }
        return this;
    }

    /** Looks at a call whose last number goes from 0 on. */
    Run row(String call, long... wants) {
        for (int i = 0; i < wants.length; i++) {
            due(call.replace("*", "" + i), wants[i]);
        }
        return this;
    }

    Run types(String text) {
        long had = answer("count(5)");
        for (int i = 0; i < text.length(); i++) {
            due("type(" + (int) text.charAt(i) + ")", had + i + 1);
        }
        return this;
    }

    Run reads(String text) {
        types(text);
        long items = text.chars().filter(c -> c == ';').count();
        Check.due("town() of \"" + text + "\"", answer("town()"), items);
        return this;
    }

    /** Each call answers what is due, and changes nothing: all that can be seen, undone, brought back, read stays. */
    Run stays(long want, String... more) {
        List<String> before = List.copyOf(calls);
        for (String call : more) {
            due(call, want);
        }
        Check.same("behind " + String.join(", ", more), all(calls), all(before));
        return this;
    }

    /** Looks at all of another object that has had the same calls, since some of it can be seen once alone. */
    private static String all(List<String> calls) {
        Run twin = new Run().does(calls.toArray(new String[0]));
        StringBuilder seen = new StringBuilder();
        twin.looks(seen, true);
        for (int i = 0; i < 11; i++) {
            twin.adds(seen, "undo()");
        }
        twin.looks(seen, false);
        for (int image = 0; image < 2; image++) {
            if (twin.adds(seen, "back(" + image + ")") >= 0) {
                twin.looks(seen, false);
            }
        }
        twin.adds(seen, "town()");
        twin.looks(seen, true);
        return seen.toString();
    }

    private long adds(StringBuilder seen, String call) {
        long answer = answer(call);
        seen.append(call).append('=').append(answer).append(' ');
        return answer;
    }

    private void looks(StringBuilder seen, boolean atToldOnes) {
        long rafts = adds(seen, "count(0)");
        long anchors = adds(seen, "count(1)");
        for (String call : List.of("count(2)", "count(3)", "count(4)", "count(5)", "trace()", "fits()", "ask()")) {
            adds(seen, call);
        }
        for (int x = 0; atToldOnes && x < 10; x++) {
            adds(seen, "cell(" + x + ", 0)");
            adds(seen, "cell(" + x + ", 1)");
        }
        for (int r = 0; r < rafts; r++) {
            for (int what = 0; what < (atToldOnes ? 5 : 3); what++) {
                adds(seen, "raft(" + r + ", " + what + ")");
            }
        }
        for (int a = 0; a < anchors; a++) {
            for (int what : atToldOnes ? new int[] {0, 1, 2, 3, 4, 5, 6} : new int[] {1, 3, 5, 6}) {
                adds(seen, "anchor(" + a + ", " + what + ")");
            }
        }
    }
}
