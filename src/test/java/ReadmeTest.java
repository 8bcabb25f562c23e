import java.io.IOException;
import java.nio.file.Files;
import java.nio.file.Path;
import java.util.ArrayList;
import java.util.Comparator;
import java.util.List;
import java.util.Set;
import java.util.TreeSet;
import java.util.regex.Matcher;
import java.util.regex.Pattern;
import java.util.stream.Collectors;
import java.util.stream.Stream;

/** README.md: its example, compiled and run by the commands that stand there, prints what stands behind its calls; its tests are those that there are. */
public final class ReadmeTest {
    private static final Path PROGRAM = Path.of("src/main/java/PromiseWalk.java");
    private static final Path TESTS = Path.of("src/test/java");
    private static final Pattern PRINTED = Pattern.compile("System\\.out\\.println\\(.*\\);");
    private static final Pattern TOLD = Pattern.compile("; *// (-?[0-9]+): ");
    private static final Pattern ROW = Pattern.compile("(?m)^\\| `([A-Za-z]+Test)` \\| .+ \\|$");
    private static final Due due = new Due("ReadmeTest");

    public static void main(String[] args) throws IOException, InterruptedException {
        String readme = Files.readString(Path.of("README.md"));
        howItIsUsed(readme);
        howItsTestsAreRun(readme);
        due.finish();
    }

    private static String block(String readme, String language) {
        Matcher matcher = Pattern.compile("(?ms)^```" + language + "\\R(.*?)^```$").matcher(readme);
        boolean found = matcher.find();
        due.holds("there is a block of " + language, found);
        return found ? matcher.group(1) : "";
    }

    private static void howItIsUsed(String readme) throws IOException, InterruptedException {
        due.sentence("how the class is compiled, an example whose answers are those that the program gives");
        String example = block(readme, "java");
        List<String> told = toldIn(example);
        List<String> printed = printedBy(example, block(readme, "sh"));
        due.holds("the example tells answers", told.size() > 0);
        due.is("answers that are printed", printed.size(), told.size());
        for (int i = 0; i < Math.min(told.size(), printed.size()); i++) {
            due.same("answer " + (i + 1) + " of the example", printed.get(i), told.get(i));
        }
    }

    /** The answers that stand behind the calls, of which each that is printed has one. */
    private static List<String> toldIn(String example) {
        List<String> told = new ArrayList<>();
        for (String line : example.split("\\R")) {
            if (PRINTED.matcher(line).find()) {
                Matcher matcher = TOLD.matcher(line);
                boolean found = matcher.find();
                due.holds("an answer stands behind " + line.trim(), found);
                told.add(found ? matcher.group(1) : "");
            }
        }
        return told;
    }

    /** What the last of the commands prints, in a folder that has the program where README.md has it, and the example. */
    private static List<String> printedBy(String example, String commands) throws IOException, InterruptedException {
        Path folder = Files.createTempDirectory("readme");
        try {
            Files.createDirectories(folder.resolve(PROGRAM).getParent());
            Files.copy(PROGRAM, folder.resolve(PROGRAM));
            Files.writeString(folder.resolve("Example.java"), example);
            String printed = "";
            for (String command : commands.split("\\R")) {
                printed = run(folder, command);
            }
            return printed.lines().collect(Collectors.toList());
        } finally {
            delete(folder);
        }
    }

    private static String run(Path folder, String command) throws IOException, InterruptedException {
        boolean known = command.startsWith("javac ") || command.startsWith("java ");
        due.holds("javac and java alone: " + command, known);
        if (!known) {
            return "";
        }
        // What goes wrong is shown, but is no answer.
        Process process = new ProcessBuilder(command.split(" +")).directory(folder.toFile()).redirectError(ProcessBuilder.Redirect.INHERIT).start();
        String printed = new String(process.getInputStream().readAllBytes());
        due.is(command, process.waitFor(), 0);
        return printed;
    }

    private static void delete(Path folder) throws IOException {
        try (Stream<Path> all = Files.walk(folder)) {
            for (Path path : all.sorted(Comparator.reverseOrder()).collect(Collectors.toList())) {
                Files.delete(path);
            }
        }
    }

    private static void howItsTestsAreRun(String readme) throws IOException {
        due.sentence("how to run its tests");
        due.holds("README.md tells .ci/run", Pattern.compile("(?m)^ {4}\\.ci/run$").matcher(readme).find());
        due.holds(".ci/run can be run", Files.isExecutable(Path.of(".ci/run")));
        Set<String> told = new TreeSet<>();
        Matcher matcher = ROW.matcher(readme);
        while (matcher.find()) {
            told.add(matcher.group(1) + ".java");
        }
        try (Stream<Path> all = Files.list(TESTS)) {
            Set<String> there = all.map(path -> path.getFileName().toString()).filter(name -> name.endsWith("Test.java"))
                .collect(Collectors.toCollection(TreeSet::new));
            due.same("the tests that README.md tells", told.toString(), there.toString());
        }
    }
}
