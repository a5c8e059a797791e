import java.io.IOException;
import java.nio.file.Files;
import java.nio.file.Path;
import java.util.ArrayList;
import java.util.Comparator;
import java.util.List;
import java.util.regex.Matcher;
import java.util.regex.Pattern;
import java.util.stream.Stream;

/**
 * The example of README.md, taken out of it as it is written and run by the commands that
 * README.md gives, prints the answers that its comments begin with.
 */
public final class ReadmeTest {
    private static final Check CHECK = new Check();
    private static final String SOURCE = "src/main/java/CountingRegex.java";
    private static final Pattern PRINTED = Pattern.compile("System\\.out\\.println\\((.*)\\);\\s*// (-?\\d+|true|false): .*");

    public static void main(String[] args) throws IOException, InterruptedException {
        CHECK.at("README.md");
        List<String> readme = Files.readAllLines(Path.of("README.md"));
        List<String> example = block(readme, "```java");
        List<String> commands = block(readme, "```sh");
        Path root = Files.createTempDirectory("readme");
        try {
            List<String> printed = run(root, example, commands);
            compare(example, printed);
        } finally {
            delete(root);
        }
        CHECK.finish();
    }

    /** The lines of the one block that this fence opens. */
    private static List<String> block(List<String> text, String fence) {
        int from = text.indexOf(fence);
        CHECK.due("there is a block " + fence, from >= 0, true);
        if (from < 0) {
            return List.of();
        }
        CHECK.due("there is only one block " + fence, text.lastIndexOf(fence) == from, true);
        List<String> rest = text.subList(from + 1, text.size());
        int length = rest.indexOf("```");
        CHECK.due("the block " + fence + " has lines and an end", length > 0, true);
        return length > 0 ? rest.subList(0, length) : List.of();
    }

    /** In a directory that has of the project what the commands name, so that nothing is left in the project. */
    private static List<String> run(Path root, List<String> example, List<String> commands)
            throws IOException, InterruptedException {
        Files.createDirectories(root.resolve(SOURCE).getParent());
        Files.copy(Path.of(SOURCE), root.resolve(SOURCE));
        Files.write(root.resolve("Example.java"), example);
        List<String> printed = new ArrayList<>();
        for (String command : commands) {
            Path output = root.resolve("output");
            int code = new ProcessBuilder(command.split(" "))
                    .directory(root.toFile()).redirectError(ProcessBuilder.Redirect.INHERIT)
                    .redirectOutput(output.toFile()).start().waitFor();
            CHECK.due("exit code of " + command, code, 0);
            printed.addAll(Files.readAllLines(output));
        }
        return printed;
    }

    private static void compare(List<String> example, List<String> printed) {
        int next = 0;
        for (String line : example) {
            if (!line.contains("System.out")) {
                continue;
            }
            String got = next < printed.size() ? printed.get(next) : "nothing";
            next++;
            Matcher told = PRINTED.matcher(line.strip());
            if (!told.matches()) {
                CHECK.report("no answer is told in: " + line.strip());
            } else if (!got.equals(told.group(2))) {
                CHECK.report(told.group(1) + " printed " + got + ", README.md says " + told.group(2));
            }
        }
        CHECK.due("an answer is told", next > 0, true);
        CHECK.due("number of lines printed", printed.size(), next);
    }

    private static void delete(Path root) throws IOException {
        try (Stream<Path> found = Files.walk(root)) {
            for (Path path : found.sorted(Comparator.reverseOrder()).toList()) {
                Files.delete(path);
            }
        }
    }
}
