import java.io.IOException;
import java.lang.reflect.Constructor;
import java.lang.reflect.Field;
import java.lang.reflect.Method;
import java.lang.reflect.Modifier;
import java.nio.file.Files;
import java.nio.file.Path;
import java.util.Arrays;
import java.util.List;
import java.util.Set;
import java.util.TreeSet;
import java.util.regex.MatchResult;
import java.util.regex.Matcher;
import java.util.regex.Pattern;
import java.util.stream.Collectors;

/** The public face as the document writes it, and no more of it; promise 1. */
public final class FaceTest {
    private static final Path DOCUMENT = Path.of("..", "shared", "DOC.md");
    private static final Path MAIN = Path.of("src", "main", "java", "AnchorWills.java");

    private static String document;

    public static void main(String[] args) throws IOException {
        document = Files.readString(DOCUMENT).replaceAll("\\s+", " ");
        constants();
        members();
        insideClasses();
        promises();
        headings();
        newObject();
        Check.end();
    }

    private static void constants() {
        Check.due("BAD", AnchorWills.BAD, -1);
        Check.due("STATE", AnchorWills.STATE, -2);
        Check.due("FULL", AnchorWills.FULL, -3);
        Check.due("NONE", AnchorWills.NONE, -9);
        Check.due("NO", AnchorWills.NO, -1000000);
    }

    private static void members() {
        Set<String> seen = new TreeSet<>();
        for (Method method : AnchorWills.class.getDeclaredMethods()) {
            if (!Modifier.isPrivate(method.getModifiers())) {
                String takes = Arrays.stream(method.getParameterTypes()).map(Class::getName).collect(Collectors.joining(","));
                seen.add(method.getReturnType().getName() + " " + method.getName() + "(" + takes + ")");
                Check.due(method + " is public", Modifier.isPublic(method.getModifiers()) ? 1 : 0, 1);
            }
        }
        Set<String> told = new TreeSet<>();
        for (String line : told("public (?:int|long) [a-z]+\\([a-z, ]*\\);")) {
            told.add(line.replaceAll("public |;|(?<=int) [a-z]+(?=[,)])|(?<=,) ", ""));
        }
        Check.due("methods that the document tells", told.size(), 29);
        Check.due("methods " + seen, seen.equals(told) ? 1 : 0, 1);
        Set<String> open = new TreeSet<>();
        for (Field field : AnchorWills.class.getDeclaredFields()) {
            if (!Modifier.isPrivate(field.getModifiers())) {
                open.add(field.getName());
            }
            boolean stays = !Modifier.isStatic(field.getModifiers()) || Modifier.isFinal(field.getModifiers());
            Check.due("static " + field + " is final", stays ? 1 : 0, 1);
        }
        Check.due("fields " + open, open.equals(Set.of("BAD", "STATE", "FULL", "NONE", "NO")) ? 1 : 0, 1);
        Constructor<?>[] makers = AnchorWills.class.getDeclaredConstructors();
        Check.due("constructors", makers.length, 1);
        Check.due("constructor is public", Modifier.isPublic(makers[0].getModifiers()) ? 1 : 0, 1);
        Check.due("constructor takes", makers[0].getParameterCount(), 0);
        Check.due("class is final", Modifier.isFinal(AnchorWills.class.getModifiers()) ? 1 : 0, 1);
    }

    private static List<String> told(String words) {
        return Pattern.compile(words).matcher(document).results().map(MatchResult::group).toList();
    }

    /** The document tells each call twice, and each time alike; the class writes them so, in that order. */
    private static void promises() throws IOException {
        List<String> face = told("(?<=public )(int|long) [a-z]+\\([a-z, ]*\\)(?=;)");
        List<String> calls = told("(?<=`)(int|long) [a-z]+\\([a-z, ]*\\)(?=`: )");
        Check.same("calls of the promises", calls.toString(), face.toString());
        List<String> written = Pattern.compile("(?m)(?<=^    public )(int|long) [a-z]+\\([a-z, ]*\\)(?= \\{)")
            .matcher(Files.readString(MAIN)).results().map(MatchResult::group).toList();
        Check.same("calls of the class", written.toString(), face.toString());
        for (int n = 0; n < calls.size(); n++) {
            String name = calls.get(n).replaceAll("^[a-z]+ |\\(.*", "");
            Check.due("Promise of " + name, document.contains("## Promise " + (n + 2) + ": " + name + " `" + calls.get(n)) ? 1 : 0, 1);
        }
    }

    /** What the interface says ahead of calls stands ahead of them in the class, too, and the calls in their order. */
    private static void headings() throws IOException {
        StringBuilder told = new StringBuilder();
        Matcher sentence = Pattern.compile("Ahead of the calls ([^-.]*) the interface says: ---- ([^.]*)\\.").matcher(document);
        while (sentence.find()) {
            told.append("// ---- ").append(sentence.group(2)).append(' ').append(sentence.group(1).replaceAll("[`,]", "")).append(' ');
        }
        StringBuilder written = new StringBuilder();
        Matcher line = Pattern.compile("(?m)^    (?:public (?:int|long) ([a-z]+)\\(|(// ---- .*)$)").matcher(Files.readString(MAIN));
        while (line.find()) {
            written.append(line.group(1) == null ? line.group(2) : line.group(1)).append(' ');
        }
        Check.same("headings and calls", written.toString(), told.toString());
    }

    private static void insideClasses() {
        Class<?>[] inside = AnchorWills.class.getDeclaredClasses();
        Check.due("some twelve classes at most", inside.length < 16 ? 1 : 0, 1);
        for (Class<?> one : inside) {
            int how = one.getModifiers();
            Check.due(one + " is static", Modifier.isStatic(how) ? 1 : 0, 1);
            Check.due(one + " is not open", Modifier.isPublic(how) || Modifier.isProtected(how) ? 1 : 0, 0);
            Check.due(one + " has some twenty fields", one.getDeclaredFields().length <= 24 ? 1 : 0, 1);
        }
    }

    private static void newObject() {
        AnchorWills x = new AnchorWills();
        for (int cell = 0; cell < 10; cell++) {
            Check.due("cell(" + cell + ", 0)", x.cell(cell, 0), 3);
            Check.due("cell(" + cell + ", 1)", x.cell(cell, 1), 1);
            Check.due("cell(" + cell + ", 2)", x.cell(cell, 2), 0);
        }
        for (int what = 0; what <= 5; what++) {
            Check.due("count(" + what + ")", x.count(what), 0);
        }
        for (int what = 0; what <= 4; what++) {
            Check.due("now(" + what + ")", x.now(what), 0);
        }
        Check.due("trace()", x.trace(), 0);
        Check.due("raft(0, 0)", x.raft(0, 0), -1);
        Check.due("anchor(0, 0)", x.anchor(0, 0), -1);
        Check.due("fits()", x.fits(), 0);
        Check.due("ask()", x.ask(), -9);
        Check.due("wreck(1, 4, 0)", x.wreck(1, 4, 0), 0);
        Check.due("wreck(1, 4, 1)", x.wreck(1, 4, 1), 0);
        Check.due("back(0)", x.back(0), -2);
        Check.due("back(1)", x.back(1), -2);
        Check.due("undo()", x.undo(), -2);
        Check.due("forget()", x.forget(), 0);
        Check.due("clear()", x.clear(), 0);
        Check.due("town()", x.town(), 0);
    }
}
