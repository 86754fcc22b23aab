import java.io.File;
import java.io.IOException;
import java.lang.reflect.Method;
import java.nio.file.Files;
import java.nio.file.Path;
import java.util.Arrays;
import java.util.BitSet;
import java.util.List;
import java.util.TreeMap;
import java.util.regex.Matcher;
import java.util.regex.Pattern;

/** All words of ../shared/DOC.md are told by a test: those of the Terms by any, those of a promise by its own. */
public final class DocumentTest {
    private static final Path DOCUMENT = Path.of("..", "shared", "DOC.md");
    private static final Path TESTS = Path.of("src", "test", "java");

    /** What no answer can break: what the whole is about, marks and headings, and what is left free. FaceTest looks at the face. */
    private static final List<String> NO_ANSWER = List.of(
        "^# AnchorWills ## What it is Anchors are wills: .*? images\\.",
        "======== [1-4]", "```(text)?", "## The public face ```java .*? ```", "## Terms",
        "The constants:", "Ahead of the calls (`[a-z]+`,? )+the interface says: ---- [a-z, ]+\\.",
        "## Promise \\d+: [A-Za-z ]+? `[^`]+`:", "## Not promised .*$");

    public static void main(String[] args) throws IOException, ClassNotFoundException {
        String document = Files.readString(DOCUMENT).replaceAll("\\s+", " ");
        BitSet free = new BitSet();
        for (String words : NO_ANSWER) {
            Matcher matcher = Pattern.compile(words).matcher(document);
            Check.due("times that the document says " + words, matcher.find() ? 1 : 0, 1);
            for (boolean more = true; more; more = matcher.find()) {
                free.set(matcher.start(), matcher.end());
            }
        }
        int[] promises = promises(document);
        for (int n = 0; n < promises.length - 1; n++) {
            BitSet said = said(document, n == 0 ? "P" : String.format("P%02d", n));
            said.or(free);
            told(document, said, n, promises[n], promises[n + 1]);
        }
        Check.end();
    }

    /** Where the Terms begin (with all ahead of them), each promise, and what is not promised. */
    private static int[] promises(String document) {
        TreeMap<Integer, Integer> starts = new TreeMap<>();
        starts.put(0, 0);
        Matcher matcher = Pattern.compile("## Promise (\\d+): ").matcher(document);
        while (matcher.find()) {
            starts.put(Integer.valueOf(matcher.group(1)), matcher.start());
        }
        starts.put(starts.size(), document.length());
        return starts.values().stream().mapToInt(i -> i).toArray();
    }

    /** The places of the document that tests say whose classes' names begin so. */
    private static BitSet said(String document, String begins) throws ClassNotFoundException {
        BitSet said = new BitSet();
        for (File file : TESTS.toFile().listFiles((in, name) -> name.matches(begins + ".*Test\\.java"))) {
            for (Method method : Class.forName(file.getName().replace(".java", "")).getDeclaredMethods()) {
                Says says = method.getAnnotation(Says.class);
                for (String words : says == null ? new String[0] : says.value()) {
                    for (int at = document.indexOf(words); at >= 0; at = document.indexOf(words, at + 1)) {
                        said.set(at, at + words.length());
                    }
                }
            }
        }
        return said;
    }

    private static void told(String document, BitSet said, int promise, int from, int to) {
        for (int at = said.nextClearBit(from); at < to; at = said.nextClearBit(at)) {
            int next = said.nextSetBit(at);
            int end = next < 0 || next > to ? to : next;
            String words = document.substring(at, end);
            boolean isTold = words.codePoints().noneMatch(Character::isLetterOrDigit);
            Check.due((promise == 0 ? "Terms" : "promise " + promise) + ": told by a test: \"" + words + "\"", isTold ? 1 : 0, 1);
            at = end;
        }
    }
}
