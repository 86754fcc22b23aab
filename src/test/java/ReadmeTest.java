import java.io.IOException;
import java.lang.reflect.Method;
import java.net.URL;
import java.net.URLClassLoader;
import java.nio.file.Files;
import java.nio.file.Path;
import java.util.ArrayList;
import java.util.List;
import java.util.regex.MatchResult;
import java.util.regex.Matcher;
import java.util.regex.Pattern;
import javax.tools.ToolProvider;

/** What README.md says of an answer is so: its Java is compiled and run, and its calls are those of the document. */
public final class ReadmeTest {
    private static final Path README = Path.of("README.md"), DOCUMENT = Path.of("..", "shared", "DOC.md");
    private static final Path BUILD = Path.of("build", "readme");

    public static void main(String[] args) throws IOException, ReflectiveOperationException {
        String readme = Files.readString(README);
        calls(readme, Files.readString(DOCUMENT).replaceAll("\\s+", " "));
        Matcher block = Pattern.compile("(?s)```java\n(.*?)```").matcher(readme);
        int blocks = 0;
        while (block.find()) {
            blocks++;
            runs("Readme" + blocks, block.group(1));
        }
        Check.due("blocks of Java", blocks, 2);
        Check.end();
    }

    /** A call with a number behind it answers that. */
    private static void runs(String name, String java) throws IOException, ReflectiveOperationException {
        String asks = java.replaceAll("(?m)^x\\.(.*?\\));\\s*// (-?\\d+).*$", "due(\"$1\", x.$1, $2);");
        Check.due("lines with an answer", asks.lines().filter(line -> line.startsWith("due(")).count(),
            java.lines().filter(line -> line.contains("//")).count());
        Files.createDirectories(BUILD);
        Path file = BUILD.resolve(name + ".java");
        Files.writeString(file, "public final class " + name + " { public static void main(String[] args) {\n" + asks
            + "}\nprivate static void due(String call, long got, long want) {\n"
            + "if (got != want) { throw new IllegalStateException(call + \" answers \" + got + \", not \" + want); } } }\n");
        int failed = ToolProvider.getSystemJavaCompiler().run(null, null, null, "-cp", System.getProperty("java.class.path"),
            "-d", BUILD.toString(), file.toString());
        Check.due("compiling " + file, failed, 0);
        try (URLClassLoader loader = new URLClassLoader(new URL[] {BUILD.toUri().toURL()})) {
            Method main = loader.loadClass(name).getMethod("main", String[].class);
            main.invoke(null, (Object) new String[0]);
        }
    }

    /** The table has each call of the document, in its order, with what the promise says that it refuses by. */
    private static void calls(String readme, String document) {
        List<String> told = new ArrayList<>();
        Matcher promise = Pattern.compile("## Promise \\d+: \\w+ `(?:int|long) ([^`]*)`:(.*?)(?=##)").matcher(document);
        while (promise.find()) {
            told.add(promise.group(1).replace("int ", "") + " " + all("\\b(BAD|STATE|FULL|NO)\\b", promise.group(2)));
        }
        List<String> written = new ArrayList<>();
        Matcher row = Pattern.compile("(?m)^\\| `([a-z]+\\([^`]*\\))` \\|.*\\|([^|]*)\\|$").matcher(readme);
        while (row.find()) {
            written.add(row.group(1) + " " + all("(?<=`)[A-Z]+(?=`)", row.group(2)));
        }
        Check.due("calls that are told", told.size(), 29);
        Check.same("calls of README.md", written.toString(), told.toString());
    }

    /** Of mark() the document says "NO: BAD.", which is answered by NO alone. */
    private static String all(String words, String in) {
        List<String> all = Pattern.compile(words).matcher(in).results().map(MatchResult::group).distinct().toList();
        return all.contains("NO") ? "[NO]" : all.toString();
    }
}
