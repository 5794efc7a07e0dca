import java.io.IOException;
import java.nio.file.Files;
import java.nio.file.Path;
import java.util.List;
import java.util.TreeSet;
import java.util.regex.Pattern;
import java.util.stream.Collectors;
import java.util.stream.Stream;

/** That README.md names every test, and that its example (which .ci/run runs) tells an answer in every line. */
final class ReadmeTest extends Checks {
    private static final Pattern ROW = Pattern.compile("(?m)^\\| (\\w+Test) \\|");

    public static void main(String[] args) throws IOException {
        String readme = Files.readString(Path.of("README.md"));
        TreeSet<String> tests = tests();
        due(tests, () -> ROW.matcher(readme).results().map(row -> row.group(1))
            .collect(Collectors.toCollection(TreeSet::new)));
        List<String> unchecked = ReadmeExample.lines(readme).stream()
            .filter(line -> ReadmeExample.checked(line).equals(line)).collect(Collectors.toList());
        due(List.of("Inglenook server = new Inglenook();"), () -> unchecked);
        end();
    }

    private static TreeSet<String> tests() throws IOException {
        try (Stream<Path> files = Files.list(Path.of("src/test/java"))) {
            return files.map(file -> file.getFileName().toString()).filter(name -> name.endsWith("Test.java"))
                .map(name -> name.replace(".java", "")).collect(Collectors.toCollection(TreeSet::new));
        }
    }
}
