import java.io.File;
import java.io.IOException;
import java.nio.file.Files;
import java.nio.file.Path;
import java.util.ArrayList;
import java.util.List;
import java.util.TreeSet;
import java.util.regex.Matcher;
import java.util.regex.Pattern;

/** What README.md says: its program is compiled and run by its commands, and its table has every test. */
public final class ReadmeTest extends Check {
    private static final Path README = Path.of("README.md");
    private static final Path TESTS = Path.of("src/test/java");

    public static void main(String[] args) throws IOException, InterruptedException {
        String readme = Files.readString(README);
        example(readme);
        tests(readme);
        end("ReadmeTest");
    }

    /** The texts of all blocks of this kind, in their order. */
    private static List<String> blocks(String readme, String kind) {
        List<String> blocks = new ArrayList<>();
        Matcher matcher = Pattern.compile("(?ms)^```" + kind + "\\n(.*?)^```$").matcher(readme);
        while (matcher.find()) {
            blocks.add(matcher.group(1));
        }
        return blocks;
    }

    private static String first(String readme, Pattern pattern) {
        Matcher matcher = pattern.matcher(readme);
        boolean found = matcher.find();
        due("README.md has " + pattern, found, true);
        return found ? matcher.group(1) : "";
    }

    private static void example(String readme) throws IOException, InterruptedException {
        due("programs, answers", blocks(readme, "java").size() + " " + blocks(readme, "text").size(), "1 1");
        due("rows of commands", blocks(readme, "sh").size(), 2);
        if (wrongSoFar() > 0) {
            return;
        }
        Path place = Path.of(first(readme, Pattern.compile("Save this program as `(build/[^`]*)`")));
        Files.createDirectories(place.getParent());
        Files.writeString(place, blocks(readme, "java").get(0));
        due("the program prints", shell(blocks(readme, "sh").get(0)), blocks(readme, "text").get(0) + "exit code 0");
        String alone = shell(blocks(readme, "sh").get(1));
        due("one test alone: " + alone, alone.endsWith(" 0 wrong\nexit code 0"), true);
    }

    private static String shell(String commands) throws IOException, InterruptedException {
        Process process = new ProcessBuilder("sh", "-e", "-c", commands).redirectErrorStream(true).start();
        String printed = new String(process.getInputStream().readAllBytes());
        return printed + "exit code " + process.waitFor();
    }

    private static void tests(String readme) {
        TreeSet<String> told = new TreeSet<>();
        Matcher row = Pattern.compile("(?m)^\\| `(\\w+)` \\|").matcher(readme);
        while (row.find()) {
            told.add(row.group(1) + ".java");
        }
        TreeSet<String> present = new TreeSet<>();
        for (File file : TESTS.toFile().listFiles()) {
            if (file.getName().endsWith("Test.java")) {
                present.add(file.getName());
            }
        }
        due("the tests of the table", told, present);
        Matcher mentioned = Pattern.compile("`(\\w+\\.java)`").matcher(readme);
        while (mentioned.find()) {
            due(mentioned.group(1), Files.exists(TESTS.resolve(mentioned.group(1))), true);
        }
    }
}
