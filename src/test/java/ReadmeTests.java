import java.io.IOException;
import java.lang.reflect.Method;
import java.lang.reflect.Modifier;
import java.nio.file.Files;
import java.nio.file.Path;
import java.nio.file.StandardCopyOption;
import java.util.ArrayList;
import java.util.Comparator;
import java.util.List;
import java.util.regex.Matcher;
import java.util.regex.Pattern;
import java.util.stream.Stream;

/** README.md at its word: its class is compiled and run, and tests are run, by the commands that it names. */
public final class ReadmeTests {
    private static final Path CLASS = Path.of("src/main/java/BenchWithTails.java");
    private static final Path RUN = Path.of(".ci/run");

    private final String readme;
    private final Path project;
    private final Path sharedTests;

    private ReadmeTests(String readme, Path place) {
        this.readme = readme;
        project = place.resolve("main");
        sharedTests = place.resolve("shared/tests");
    }

    public static void main(String[] args) throws IOException, InterruptedException {
        Path place = Files.createTempDirectory("readme");
        try {
            ReadmeTests tests = new ReadmeTests(Files.readString(Path.of("README.md")), place);
            tests.layProject();
            tests.shownClass();
            tests.testCommand();
            tests.tableOfTests();
        } finally {
            removeAll(place);
        }
        Check.end("ReadmeTests");
    }

    /** A project of its own, so that nothing comes into this one. */
    private void layProject() throws IOException {
        for (Path file : new Path[] {CLASS, RUN}) {
            Files.createDirectories(project.resolve(file).getParent());
            Files.copy(file, project.resolve(file), StandardCopyOption.COPY_ATTRIBUTES);
        }
        Files.createDirectories(sharedTests);
    }

    private void shownClass() throws IOException, InterruptedException {
        String shown = blocks("java").get(0);
        List<String> commands = commands();
        Files.writeString(project.resolve("YourClass.java"), shown);
        Check.due(commands.get(0), exitOf(commands.get(0)), 0);
        Check.due(commands.get(1), exitOf(commands.get(1)), 0);
        String[] printed = said().split("\n");
        Matcher call = Pattern.compile("show\\((x\\.(\\w+)\\(.*\\))\\); +// (-?\\d+)").matcher(shown);
        List<String> calls = new ArrayList<>();
        while (call.find()) {
            String got = calls.size() < printed.length ? printed[calls.size()] : "nothing";
            Check.due("README.md, " + call.group(1), got, call.group(3));
            calls.add(call.group(2));
        }
        Check.due("answers of README.md's class", printed.length, calls.size());
        Check.due("calls without an answer", shown.split("show\\(x\\.").length - 1, calls.size());
        for (Method method : BenchWithTails.class.getDeclaredMethods()) {
            if (Modifier.isPublic(method.getModifiers())) {
                Check.due(method.getName() + " is shown", calls.contains(method.getName()) ? 1 : 0, 1);
            }
        }
    }

    /** It runs each test of both places, and fails if one of either place does. */
    private void testCommand() throws IOException, InterruptedException {
        String command = commands().get(2);
        Path own = project.resolve("src/test/java/OwnTests.java");
        Path shared = sharedTests.resolve("SharedRuns.java");
        Files.createDirectories(own.getParent());
        Files.writeString(own, test("OwnTests", 0));
        Files.writeString(shared, test("SharedRuns", 0));
        Check.due(command + ", all hold", exitOf(command), 0);
        Check.due("the own test ran", said().contains("this is OwnTests") ? 1 : 0, 1);
        Check.due("the shared test ran", said().contains("this is SharedRuns") ? 1 : 0, 1);
        Check.due("how it ends", said().endsWith("2 passed, 0 failed\n") ? 1 : 0, 1);
        Files.writeString(own, test("OwnTests", 1));
        Check.due(command + ", an own one fails", exitOf(command), 1);
        Check.due("how it ends then", said().endsWith("1 passed, 1 failed\n") ? 1 : 0, 1);
        Files.writeString(own, test("OwnTests", 0));
        Files.writeString(shared, "no Java");
        Check.due(command + ", a shared one can't be compiled", exitOf(command), 1);
        Check.due("how it ends then", said().endsWith("1 passed, 1 failed\n") ? 1 : 0, 1);
    }

    private static String test(String name, int exit) {
        return "public class " + name + " { public static void main(String[] args) { new BenchWithTails();"
                + " System.out.println(\"this is " + name + "\"); System.exit(" + exit + "); } }";
    }

    private void tableOfTests() throws IOException {
        try (Stream<Path> files = Files.list(Path.of("src/test/java"))) {
            for (Path file : files.toList()) {
                String name = file.getFileName().toString().replace(".java", "");
                Check.due(name + " in README.md", readme.contains("`" + name) ? 1 : 0, 1);
            }
        }
    }

    private List<String> commands() {
        List<String> commands = new ArrayList<>();
        for (String block : blocks("sh")) {
            commands.addAll(block.lines().toList());
        }
        return commands;
    }

    private List<String> blocks(String kind) {
        List<String> blocks = new ArrayList<>();
        Matcher block = Pattern.compile("(?ms)^```" + kind + "\n(.*?)^```$").matcher(readme);
        while (block.find()) {
            blocks.add(block.group(1));
        }
        return blocks;
    }

    private int exitOf(String command) throws IOException, InterruptedException {
        ProcessBuilder shell = new ProcessBuilder("sh", "-c", command).directory(project.toFile());
        shell.redirectOutput(project.resolve("said").toFile());
        // Of its own: what a compiler has to say of a test that fails is no answer.
        shell.redirectError(project.resolve("complained").toFile());
        return shell.start().waitFor();
    }

    /** What the last command printed. */
    private String said() throws IOException {
        return Files.readString(project.resolve("said"));
    }

    private static void removeAll(Path place) throws IOException {
        try (Stream<Path> files = Files.walk(place)) {
            for (Path file : files.sorted(Comparator.reverseOrder()).toList()) {
                Files.delete(file);
            }
        }
    }
}
