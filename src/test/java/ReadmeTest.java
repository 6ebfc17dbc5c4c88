import java.io.IOException;
import java.lang.reflect.Method;
import java.lang.reflect.Modifier;
import java.nio.charset.StandardCharsets;
import java.nio.file.Files;
import java.nio.file.Path;
import java.nio.file.StandardCopyOption;
import java.util.ArrayList;
import java.util.Comparator;
import java.util.List;
import java.util.regex.Matcher;
import java.util.regex.Pattern;
import java.util.stream.Collectors;
import java.util.stream.Stream;

/** What README.md says of use and of the tests: all is done as it is told there, in a copy. */
public final class ReadmeTest {
    private static final Path TESTS = Path.of("src/test/java");
    private static final Path PROGRAM = Path.of("src/main/java/DutiesProved.java");
    private static final Path DOCUMENT = Path.of("../shared/DOC.md");
    private static final String[] REFUSALS = {"-1", "-2", "-3", "-4", "-6"};
    private static int wrong = 0;

    private final String readme;
    private final Path room;

    private ReadmeTest(String readme, Path room) {
        this.readme = readme;
        this.room = room;
    }

    public static void main(String[] args) throws Exception {
        Path room = Files.createTempDirectory("readme");
        try {
            ReadmeTest test = new ReadmeTest(Files.readString(Path.of("README.md"), StandardCharsets.UTF_8), room);
            test.example();
            test.oneTestAlone();
            test.namesEachMethod();
            test.namesEachTest();
            test.refusals();
            must(test.readme.contains("\n    .ci/run\n") && Files.isExecutable(Path.of(".ci/run")), ".ci/run");
        } finally {
            remove(room);
        }
        System.out.println(wrong == 0 ? "all is as README.md says" : wrong + " of README.md not so");
        if (wrong != 0) System.exit(1);
    }

    private static void must(boolean so, String what) {
        if (!so) {
            wrong++;
            System.out.println("README.md: not so: " + what);
        }
    }

    private static void remove(Path room) throws IOException {
        try (Stream<Path> all = Files.walk(room)) {
            for (Path path : all.sorted(Comparator.reverseOrder()).collect(Collectors.toList())) Files.delete(path);
        }
    }

    /** What stands in the blocks of README.md that are marked so. */
    private List<String> blocks(String mark) {
        List<String> found = new ArrayList<>();
        Matcher m = Pattern.compile("(?ms)^```" + mark + "\n(.*?)^```$").matcher(readme);
        while (m.find()) found.add(m.group(1));
        return found;
    }

    private String block(String mark, int i) {
        List<String> found = blocks(mark);
        must(i < found.size(), "there is a block of " + mark + ", the " + i + "th");
        return i < found.size() ? found.get(i) : "";
    }

    private void copy(Path from, Path to) throws IOException {
        Files.createDirectories(to.getParent());
        Files.copy(from, to, StandardCopyOption.REPLACE_EXISTING);
    }

    /** Runs the commands as README.md tells them; what the last one printed. */
    private String done(Path where, String commands) throws Exception {
        String printed = "";
        for (String command : commands.split("\n")) {
            Process process = new ProcessBuilder("sh", "-c", command)
                    .directory(where.toFile()).redirectErrorStream(true).start();
            printed = new String(process.getInputStream().readAllBytes(), StandardCharsets.UTF_8);
            int ended = process.waitFor();
            must(ended == 0, command + " ended with " + ended + ":\n" + printed);
        }
        return printed;
    }

    private void example() throws Exception {
        Path where = room.resolve("user");
        copy(PROGRAM, where.resolve(PROGRAM));
        Files.writeString(where.resolve("Example.java"), block("java", 0), StandardCharsets.UTF_8);
        String printed = done(where, block("sh", 0));
        must(printed.equals(block("text", 0)), "what the example prints; it prints:\n" + printed);
    }

    private void oneTestAlone() throws Exception {
        Path where = room.resolve("project");
        copy(PROGRAM, where.resolve(PROGRAM));
        copy(DOCUMENT, room.resolve("shared/DOC.md"));
        try (Stream<Path> all = Files.list(TESTS)) {
            for (Path path : all.collect(Collectors.toList())) copy(path, where.resolve(path));
        }
        String printed = done(where, block("sh", 1));
        must(printed.endsWith(" answers looked at, 0 not as due\n"), "the test alone; it prints:\n" + printed);
    }

    private void namesEachMethod() {
        for (Method m : DutiesProved.class.getDeclaredMethods()) {
            if (!Modifier.isPublic(m.getModifiers())) continue;
            Matcher told = Pattern.compile("`" + m.getName() + "\\(([a-z, ]*)\\)`").matcher(readme);
            boolean found = told.find();
            must(found, "it names " + m.getName());
            if (found) {
                int many = told.group(1).isEmpty() ? 0 : told.group(1).split(", ").length;
                must(many == m.getParameterCount(), "so many arguments of " + m.getName());
            }
        }
    }

    private void namesEachTest() throws IOException {
        try (Stream<Path> all = Files.list(TESTS)) {
            for (Path path : all.collect(Collectors.toList())) {
                String name = path.getFileName().toString().replace(".java", "");
                must(readme.contains("`" + name), "it names " + name);
            }
        }
        Matcher m = Pattern.compile("`(\\w+(?:Test|Edges))`").matcher(readme);
        while (m.find()) must(Files.exists(TESTS.resolve(m.group(1) + ".java")), "there is a " + m.group(1));
    }

    /** The table's rows, each refusal told as an answer of ints and of longs. */
    private void refusals() {
        for (String refusal : REFUSALS) {
            long ofLongs = 4000000000000000000L - Long.parseLong(refusal);
            must(readme.contains("\n| " + refusal + " | " + ofLongs + " | "), "the refusal " + refusal);
        }
    }
}
