import java.io.IOException;
import java.nio.file.Files;
import java.nio.file.Path;
import java.util.ArrayList;
import java.util.List;
import java.util.concurrent.ExecutorService;
import java.util.concurrent.Executors;
import java.util.concurrent.Future;
import java.util.concurrent.TimeUnit;
import javax.tools.ToolProvider;

/**
 * Breaks the class by each row of mutants.txt, and looks that the test which the row names fails then.
 * Run from the project's root, behind .ci/run (whose build/own it uses): java src/mutants/Mutants.java
 */
public final class Mutants {
    private static final Path MAIN = Path.of("src", "main", "java", "AnchorWills.java");
    private static final Path LIST = Path.of("src", "mutants", "mutants.txt");
    private static final Path BUILD = Path.of("build", "mutants");
    private static final int SECONDS = 60;

    /** "== Test: what is broken", then the lines that go ("- ..") and those that come ("+ .."). */
    private record Mutant(int number, String test, String title, String goes, String comes) {
    }

    public static void main(String[] args) throws Exception {
        String source = Files.readString(MAIN);
        List<Mutant> mutants = read(Files.readAllLines(LIST));
        ExecutorService hands = Executors.newFixedThreadPool(Runtime.getRuntime().availableProcessors());
        List<Future<String>> answers = new ArrayList<>();
        for (Mutant mutant : mutants) {
            answers.add(hands.submit(() -> tries(source, mutant)));
        }
        int bad = 0;
        for (Future<String> answer : answers) {
            if (!answer.get().isEmpty()) {
                bad++;
                System.out.println(answer.get());
            }
        }
        hands.shutdown();
        System.out.println(mutants.size() + " mutants, " + bad + " not caught by their test");
        System.exit(bad == 0 ? 0 : 1);
    }

    private static List<Mutant> read(List<String> lines) {
        List<Mutant> mutants = new ArrayList<>();
        String head = null;
        List<String> goes = new ArrayList<>();
        List<String> comes = new ArrayList<>();
        for (int i = 0; i <= lines.size(); i++) {
            String line = i < lines.size() ? lines.get(i) : "== end: end";
            if (line.startsWith("== ")) {
                if (head != null) {
                    String[] parts = head.split(": ", 2);
                    mutants.add(new Mutant(mutants.size(), parts[0], head, String.join("\n", goes), String.join("\n", comes)));
                }
                head = line.substring(3);
                goes.clear();
                comes.clear();
            } else if (line.startsWith("-")) {
                goes.add(line.substring(Math.min(2, line.length())));
            } else if (line.startsWith("+")) {
                comes.add(line.substring(Math.min(2, line.length())));
            }
        }
        return mutants;
    }

    private static String tries(String source, Mutant mutant) throws IOException, InterruptedException {
        int at = source.indexOf(mutant.goes);
        if (at < 0 || source.indexOf(mutant.goes, at + 1) >= 0) {
            return "stands not once in the class: " + mutant.title;
        }
        Path place = BUILD.resolve("" + mutant.number);
        Files.createDirectories(place);
        Path file = place.resolve("AnchorWills.java");
        Files.writeString(file, source.substring(0, at) + mutant.comes + source.substring(at + mutant.goes.length()));
        if (ToolProvider.getSystemJavaCompiler().run(null, null, null, "-d", place.toString(), file.toString()) != 0) {
            return "does not compile: " + mutant.title;
        }
        String path = place + System.getProperty("path.separator") + Path.of("build", "own");
        Process process = new ProcessBuilder("java", "-cp", path, mutant.test).redirectErrorStream(true)
            .redirectOutput(place.resolve("out.txt").toFile()).start();
        if (!process.waitFor(SECONDS, TimeUnit.SECONDS)) {
            process.destroyForcibly();
            return "";
        }
        return process.exitValue() == 0 ? "not caught: " + mutant.title : "";
    }
}
