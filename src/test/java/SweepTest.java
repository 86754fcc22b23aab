import java.lang.reflect.InvocationTargetException;
import java.lang.reflect.Method;
import java.lang.reflect.Modifier;
import java.util.Arrays;
import java.util.Comparator;
import java.util.List;

/** Each call with all numbers at and beside each end that the document tells, and far beyond, on the class and on the model. */
public final class SweepTest {
    private static final int MIN = Integer.MIN_VALUE, MAX = Integer.MAX_VALUE;
    private static final int[] MANY = {MIN, MIN + 1, -1000000, -257, -256, -65, -64, -33, -32, -31, -11, -10, -9, -8, -3, -2, -1, 0, 1, 2, 3,
        4, 5, 6, 7, 8, 9, 10, 11, 15, 16, 31, 32, 33, 59, 60, 61, 63, 64, 65, 98, 99, 100, 101, 127, 128, 199, 200, 201, 255, 256, 257,
        65536, 1 << 30, MAX - 1, MAX};
    private static final int[] FEW = {MIN, -32, -1, 0, 1, 2, 3, 4, 5, 7, 9, 13, 15, 32, 99, 100, 255, 256, MAX};

    private static final String TOWN = "c0 9 0;c9 1 3;r0;r0;r1;t0 1;a0 0 1 9 10;a1 9 9 60 99;a2 5 1 1 0;a0 5 2 6 4;";
    private static final String EIGHT = "r0;r0;r1;r2;r3;r4;t5 0;" + "a0 0 1 1 0;a5 9 1 9 9;".repeat(4);

    /** What is done ahead of each sweep: a text, then calls. */
    private static final String[][] STATES = {
        {""}, {TOWN}, {EIGHT},
        {TOWN, "year()", "storms(7, 1)", "hauls(1, 1)", "pays(0, 1)", "keep(0)", "hears(3, 1)", "wills(0, 2)"},
        {EIGHT, "storms(9, 0)", "dies(5)", "dies(0)", "keep(1)", "year()", "mark(5, 7)"},
        {TOWN, "hears(3, 1)", "hears(3, 1)", "hears(3, 1)", "hears(3, 1)", "hears(3, 1)", "hears(30, 0)", "dies(0)", "dies(1)"}};

    /** Then a new object is taken, so that none is used for more calls than the document tells. */
    private static final int CALLS = 300;

    public static void main(String[] args) throws ReflectiveOperationException {
        Method[] methods = AnchorWills.class.getDeclaredMethods();
        Arrays.sort(methods, Comparator.comparing(Method::getName));
        for (Method method : methods) {
            for (String[] state : STATES) {
                if (Modifier.isPublic(method.getModifiers())) {
                    sweep(method, state);
                }
            }
        }
        Check.end();
    }

    private static void sweep(Method method, String[] state) throws ReflectiveOperationException {
        int takes = method.getParameterCount();
        int[] numbers = takes > 2 ? FEW : MANY;
        int ways = (int) Math.pow(numbers.length, takes);
        Method model = Model.class.getDeclaredMethod(method.getName(), method.getParameterTypes());
        Object x = null;
        Object y = null;
        for (int way = 0; way < ways; way++) {
            if (way % CALLS == 0) {
                x = made(new AnchorWills(), state);
                y = made(new Model(), state);
            }
            Object[] with = new Object[takes];
            for (int i = 0, rest = way; i < takes; i++, rest /= numbers.length) {
                with[i] = numbers[rest % numbers.length];
            }
            long due = ((Number) model.invoke(y, with)).longValue();
            Check.due(method.getName() + Arrays.toString(with) + " behind " + String.join(" ", state), called(method, x, with), due);
        }
    }

    private static long called(Method method, Object x, Object[] with) throws IllegalAccessException {
        try {
            return ((Number) method.invoke(x, with)).longValue();
        } catch (InvocationTargetException e) {
            return Long.MIN_VALUE;
        }
    }

    private static Object made(Object x, String[] state) throws ReflectiveOperationException {
        for (char c : state[0].toCharArray()) {
            x.getClass().getDeclaredMethod("type", int.class).invoke(x, (int) c);
        }
        x.getClass().getDeclaredMethod("town").invoke(x);
        for (String call : List.of(state).subList(1, state.length)) {
            String[] parts = call.split("[(, )]+");
            Object[] with = Arrays.stream(parts).skip(1).map(Integer::valueOf).toArray();
            Class<?>[] types = new Class<?>[with.length];
            Arrays.fill(types, int.class);
            x.getClass().getDeclaredMethod(parts[0], types).invoke(x, with);
        }
        return x;
    }
}
