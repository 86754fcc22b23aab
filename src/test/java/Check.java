import java.io.IOException;
import java.lang.reflect.InvocationTargetException;
import java.lang.reflect.Method;
import java.nio.file.Files;
import java.nio.file.Path;
import java.util.Arrays;
import java.util.Comparator;

/** Runs tests, counts answers that are not the due ones, and ends the program by that. */
final class Check {
    private static final Path DOCUMENT = Path.of("..", "shared", "DOC.md");

    private static String test = "";
    private static int tests = 0;
    private static int asked = 0;
    private static int wrong = 0;

    private Check() {
    }

    static void due(String call, long got, long want) {
        asked++;
        if (got != want) {
            fails(call + " answered " + got + ", due is " + want);
        }
    }

    static void same(String what, String got, String want) {
        asked++;
        if (!got.equals(want)) {
            fails(what + ":\n  " + got + "\n  due is\n  " + want);
        }
    }

    private static void fails(String what) {
        wrong++;
        System.out.println(test + what);
    }

    /** Runs each method that bears words of the document, and looks for these in the document. */
    static void all(Class<?> of) {
        Method[] methods = of.getDeclaredMethods();
        Arrays.sort(methods, Comparator.comparing(Method::getName));
        for (Method method : methods) {
            Says says = method.getAnnotation(Says.class);
            if (says != null) {
                test = of.getName() + "." + method.getName() + ": ";
                tests++;
                for (String words : says.value()) {
                    isInDocument(words);
                }
                run(method);
            }
        }
        test = "";
        end();
    }

    private static void isInDocument(String words) {
        try {
            if (!Files.readString(DOCUMENT).replaceAll("\\s+", " ").contains(words)) {
                fails("the document does not say: " + words);
            }
        } catch (IOException e) {
            fails("no document: " + e);
        }
    }

    private static void run(Method method) {
        try {
            method.invoke(null);
        } catch (InvocationTargetException e) {
            fails("ended by " + e.getCause());
        } catch (IllegalAccessException e) {
            fails("can't be run: " + e);
        }
    }

    static void end() {
        System.out.println((tests > 0 ? tests + " tests, " : "") + asked + " answers looked at, " + wrong + " wrong");
        if (wrong != 0 || asked == 0) {
            System.exit(1);
        }
    }
}
