import java.io.IOException;
import java.lang.reflect.Method;
import java.lang.reflect.Modifier;
import java.nio.charset.StandardCharsets;
import java.nio.file.Files;
import java.nio.file.Path;
import java.util.ArrayList;
import java.util.Comparator;
import java.util.List;
import java.util.regex.Matcher;
import java.util.regex.Pattern;
import java.util.stream.Stream;

/**
 * What README.md says must be so when tried from a fresh checkout: its example and its commands are tried in a copy that has
 * nothing compiled, and it must name each method of the class and each file of the tests.
 */
public final class ReadmeTest {
    // It runs this test, too; that it is run shows that it can be.
    private static final String ALL_TESTS = ".ci/run";
    private static final String EXAMPLE = "java -cp out Example";

    private ReadmeTest() {
    }

    public static void main(String[] args) throws Exception {
        String readme = Files.readString(Path.of("README.md"), StandardCharsets.UTF_8);
        namesMethods(readme);
        namesTests(readme);
        Path top = Files.createTempDirectory("readme");
        try {
            Path copy = freshCopy(top);
            tryAll(readme, copy);
        } finally {
            remove(top);
        }
        Check.finish("ReadmeTest");
    }

    private static void namesMethods(String readme) {
        for (Method m : PulseGrid.class.getDeclaredMethods()) {
            if (Modifier.isPublic(m.getModifiers())) {
                Check.due("README.md names " + m.getName(), readme.contains("`" + m.getName() + "`"), true);
            }
        }
    }

    private static void namesTests(String readme) throws IOException {
        for (Path file : below(Path.of("src/test/java"))) {
            String name = file.getFileName().toString().replace(".java", "");
            boolean isFile = Files.isRegularFile(file);
            Check.due("README.md names " + name, !isFile || readme.contains("`" + name + "`"), true);
        }
    }

    private static void tryAll(String readme, Path copy) throws Exception {
        List<String> programs = blocks(readme, "java");
        List<String> outputs = blocks(readme, "text");
        Check.due("README.md has one program", programs.size(), 1);
        Check.due("README.md has what it prints", outputs.size(), 1);
        if (Check.hasFailed()) {
            return;
        }
        Files.writeString(copy.resolve("Example.java"), programs.get(0));
        boolean hasAllTests = false;
        boolean hasExample = false;
        for (String command : String.join("", blocks(readme, "sh")).split("\n")) {
            if (command.equals(ALL_TESTS)) {
                hasAllTests = true;
                Check.due(ALL_TESTS + " can be run", Files.isExecutable(Path.of(ALL_TESTS)), true);
                continue;
            }
            String printed = tryOut(command, copy);
            if (command.equals(EXAMPLE)) {
                hasExample = true;
                Check.due("README.md's example prints\n" + printed + "and not what it says, so", printed.equals(outputs.get(0)), true);
            }
        }
        Check.due("README.md says how to run the tests", hasAllTests, true);
        Check.due("README.md says how to run its example", hasExample, true);
    }

    private static String tryOut(String command, Path copy) throws Exception {
        Process process = new ProcessBuilder("sh", "-c", command).directory(copy.toFile()).redirectErrorStream(true).start();
        String printed = new String(process.getInputStream().readAllBytes(), StandardCharsets.UTF_8);
        int code = process.waitFor();
        Check.due("README.md's command " + command + " printed\n" + printed + "exit code", code, 0);
        return printed;
    }

    private static List<String> blocks(String readme, String kind) {
        List<String> all = new ArrayList<>();
        Matcher m = Pattern.compile("(?ms)^```" + kind + "\n(.*?)^```$").matcher(readme);
        while (m.find()) {
            all.add(m.group(1));
        }
        return all;
    }

    private static Path freshCopy(Path top) throws IOException {
        Path copy = Files.createDirectory(top.resolve("main"));
        for (Path from : below(Path.of("src"))) {
            Files.copy(from, copy.resolve(from.toString()));
        }
        Files.createSymbolicLink(top.resolve("shared"), Path.of("../shared").toRealPath());
        return copy;
    }

    /** All below a folder, itself first, each folder ahead of what is in it; links are not followed. */
    private static List<Path> below(Path folder) throws IOException {
        try (Stream<Path> found = Files.walk(folder)) {
            return found.toList();
        }
    }

    private static void remove(Path top) throws IOException {
        List<Path> all = new ArrayList<>(below(top));
        all.sort(Comparator.reverseOrder());
        for (Path path : all) {
            Files.delete(path);
        }
    }
}
