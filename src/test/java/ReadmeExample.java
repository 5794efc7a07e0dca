import java.io.IOException;
import java.nio.file.Files;
import java.nio.file.Path;
import java.util.ArrayList;
import java.util.List;
import java.util.regex.Matcher;
import java.util.regex.Pattern;

/** Makes a program of the example in README.md: it runs the lines as they stand there, and checks their answers. */
final class ReadmeExample {
    private static final Pattern EXAMPLE = Pattern.compile("(?s)```java\n(.*?)```");
    private static final Pattern DECLARATION = Pattern.compile("\\w+ (\\w+) = .*; *// (.+)");
    private static final Pattern REFUSAL = Pattern.compile("(.*); *// throws (\\w+)");
    private static final Pattern CALL = Pattern.compile("(.*); *// (.+)");
    private static final String[] START = {
        "public final class Example {",
        "    private static boolean wrong = false;",
        "",
        "    private static void due(String want, Object answer) {",
        "        String got = answer instanceof Character ? \"'\" + answer + \"'\" : String.valueOf(answer);",
        "        if (!got.equals(want)) {",
        "            wrong = true;",
        "            System.out.println(\"README.md says \" + want + \", the answer is \" + got);",
        "        }",
        "    }",
        "",
        "    public static void main(String[] args) {",
    };

    /** The argument is the file Example.java to be written. */
    public static void main(String[] args) throws IOException {
        List<String> program = new ArrayList<>(List.of(START));
        for (String line : lines(Files.readString(Path.of("README.md")))) {
            program.add(checked(line));
        }
        program.add("System.exit(wrong ? 1 : 0); } }");
        Path file = Path.of(args[0]);
        Files.createDirectories(file.getParent());
        Files.write(file, program);
    }

    static List<String> lines(String readme) {
        Matcher example = EXAMPLE.matcher(readme);
        return example.find() ? List.of(example.group(1).strip().split("\n+")) : List.of();
    }

    /** The line with a check of the answer that its comment tells, or as it is if there is none. */
    static String checked(String line) {
        Matcher declaration = DECLARATION.matcher(line);
        if (declaration.matches()) {
            return line + "\n" + due(declaration.group(2), declaration.group(1));
        }
        Matcher refusal = REFUSAL.matcher(line);
        if (refusal.matches()) {
            return "try { " + due(refusal.group(2), refusal.group(1)) + " } catch (RuntimeException e) { "
                + due(refusal.group(2), "e.getClass().getSimpleName()") + " }";
        }
        Matcher call = CALL.matcher(line);
        return call.matches() ? due(call.group(2), call.group(1)) : line;
    }

    private static String due(String want, String answer) {
        return "due(\"" + want + "\", " + answer + ");";
    }
}
