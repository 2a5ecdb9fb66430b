import java.io.IOException;
import java.nio.file.Files;
import java.nio.file.Path;
import java.nio.file.StandardCopyOption;
import java.util.ArrayList;
import java.util.Comparator;
import java.util.List;
import java.util.regex.Matcher;
import java.util.regex.Pattern;
import java.util.stream.Stream;

/** Does what README.md says, as it is written there, in a copy of the project with ../shared beside it. */
public final class ReadmeTest extends Checks {
    private static final Path PROJECT = Path.of("").toAbsolutePath();
    private static final Path SHARED = Path.of("../shared");
    private static final Path OWN_TESTS = Path.of("src/test/java");
    private static final Path SHARED_TESTS = SHARED.resolve("tests");
    private static final String PASSES = "System.out.println(\"hello\");";
    private static final String FAILS = "System.out.println(\"hello\"); System.exit(1);";

    /** A block of README.md: what stands behind its first fence, and its lines. */
    private record Block(String kind, String text) {
    }

    private record Done(int code, String output, String errors) {
    }

    public static void main(String[] args) throws Exception {
        Path place = Files.createTempDirectory("readme");
        try {
            useIsAsToldIn(place.resolve("use"));
            testsRunAsToldIn(place.resolve("tests"));
            oneFailingTestIsSeenIn(place);
        } finally {
            remove(place);
        }
        conclude("README.md can be followed");
    }

    private static void useIsAsToldIn(Path place) throws Exception {
        testing("README.md, Use");
        List<Block> blocks = blocksOf("Use");
        due("blocks", blocks.size(), 3);
        Path project = copyTo(place);
        Files.writeString(project.resolve("Example.java"), blocks.get(0).text);
        Done done = perform(project, blocks.get(1));
        dueDone(done, true);
        due("printed is\n" + done.output + "that", done.output.equals(blocks.get(2).text), true);
    }

    /** Without this test in the copy, which else would make copies without end. */
    private static void testsRunAsToldIn(Path place) throws Exception {
        testing("README.md, Tests");
        List<Block> blocks = blocksOf("Tests");
        due("blocks", blocks.size(), 2);
        Path project = copyTo(place);
        Files.delete(project.resolve(OWN_TESTS).resolve("ReadmeTest.java"));
        Done all = perform(project, blocks.get(0));
        dueDone(all, true);
        List<Path> tests = testsOf(project);
        due("tests are " + tests + ", more than 1", tests.size() > 1, true);
        for (Path test : tests) {
            due(test + " passed", all.output.contains("passed: " + test + "\n"), true);
        }
        Done one = perform(project, blocks.get(1));
        dueDone(one, true);
        due("printed is " + one.output + " of one test", one.output.matches("\\d+ sentences hold\n"), true);
    }

    private static void oneFailingTestIsSeenIn(Path place) throws Exception {
        testing(".ci/run");
        dueDone(runOfTwo(place.resolve("both"), PASSES, PASSES), true);
        dueDone(runOfTwo(place.resolve("shared"), FAILS, PASSES), false);
        dueDone(runOfTwo(place.resolve("own"), PASSES, FAILS), false);
        dueDone(runOfTwo(place.resolve("uncompiled"), PASSES, "no Java"), false);
    }

    /** All tests of a copy give way to one in ../shared and one of its own; both must be tried. */
    private static Done runOfTwo(Path place, String sharedTest, String ownTest) throws Exception {
        Path project = copyTo(place);
        for (Path test : testsOf(project)) {
            Files.delete(project.resolve(test));
        }
        writeTest(project.resolve(SHARED_TESTS), "SharedTry", sharedTest);
        writeTest(project.resolve(OWN_TESTS), "OwnTry", ownTest);
        Done done = perform(project, blocksOf("Tests").get(0));
        for (String name : List.of("SharedTry", "OwnTry")) {
            due(name + " told in\n" + done.output + "that", done.output.contains("/" + name + ".java"), true);
        }
        return done;
    }

    private static void writeTest(Path directory, String name, String body) throws IOException {
        Files.writeString(directory.resolve(name + ".java"),
            "public final class " + name + " { public static void main(String[] args) { " + body + " } }\n");
    }

    private static void dueDone(Done done, boolean well) {
        due("done well is\n" + done.output + done.errors + "that", done.code == 0, well);
    }

    /** The blocks between fences in the section with this heading, in their order. */
    private static List<Block> blocksOf(String heading) throws IOException {
        String text = Files.readString(PROJECT.resolve("README.md"));
        String section = text.split("(?m)^## " + heading + "\n", 2)[1].split("(?m)^## ", 2)[0];
        Matcher fenced = Pattern.compile("(?ms)^```(\\w*)\n(.*?)^```\n").matcher(section);
        List<Block> blocks = new ArrayList<>();
        while (fenced.find()) {
            blocks.add(new Block(fenced.group(1), fenced.group(2)));
        }
        return blocks;
    }

    private static Done perform(Path project, Block block) throws Exception {
        due("a block of kind " + block.kind + " to be done", block.kind.equals("sh"), true);
        Path errors = project.resolveSibling("errors");
        Process process = new ProcessBuilder("sh", "-e", "-c", block.text).directory(project.toFile())
            .redirectError(errors.toFile()).start();
        process.getOutputStream().close();
        String output = new String(process.getInputStream().readAllBytes());
        return new Done(process.waitFor(), output, Files.readString(errors));
    }

    private static List<Path> testsOf(Path project) throws IOException {
        List<Path> tests = new ArrayList<>();
        for (Path directory : List.of(SHARED_TESTS, OWN_TESTS)) {
            try (Stream<Path> files = Files.list(project.resolve(directory))) {
                files.filter(file -> file.toString().endsWith(".java"))
                    .forEach(file -> tests.add(directory.resolve(file.getFileName())));
            }
        }
        return tests;
    }

    private static Path copyTo(Path place) throws IOException {
        Path project = place.resolve("main");
        for (String part : List.of("README.md", ".ci", "src")) {
            copyTree(PROJECT.resolve(part), project.resolve(part));
        }
        copyTree(SHARED.toRealPath(), place.resolve("shared"));
        return project;
    }

    /** Files keep their permissions: .ci/run must be executable. Directories must be writable here. */
    private static void copyTree(Path from, Path to) throws IOException {
        try (Stream<Path> found = Files.walk(from)) {
            for (Path each : found.toList()) {
                Path copy = to.resolve(from.relativize(each).toString());
                if (Files.isDirectory(each)) {
                    Files.createDirectories(copy);
                } else {
                    Files.createDirectories(copy.getParent());
                    Files.copy(each, copy, StandardCopyOption.COPY_ATTRIBUTES);
                }
            }
        }
    }

    private static void remove(Path place) throws IOException {
        try (Stream<Path> found = Files.walk(place)) {
            for (Path each : found.sorted(Comparator.reverseOrder()).toList()) {
                Files.delete(each);
            }
        }
    }
}
