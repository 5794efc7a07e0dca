import java.io.IOException;
import java.io.UncheckedIOException;
import java.nio.file.Files;
import java.nio.file.Path;
import java.util.ArrayList;
import java.util.LinkedHashMap;
import java.util.LinkedHashSet;
import java.util.List;
import java.util.Map;
import java.util.Set;

/** The sentences of ../shared/DOC.md under their headings, and which of them a test has quoted. */
final class Document {
    /** What a parameter is, where the document tells no more than its name. */
    private static final String PLAIN_PARAMETER = "- `(\\w+)`: the (user|room|message|index|character|rank)";

    private final Map<String, Set<String>> unquoted = new LinkedHashMap<>();
    private final Map<String, Set<String>> sentences = new LinkedHashMap<>();

    Document(Path path) {
        String text = read(path).replaceAll("(?s)```.*?```", "").replaceAll("<h2>(.*)</h2>", "## $1");
        String[] parts = text.split("(?m)^## ");
        for (int part = 1; part < parts.length; part++) {
            int end = parts[part].indexOf('\n');
            String heading = parts[part].substring(0, end).replaceAll("(Promise \\d+):.*", "$1");
            String body = parts[part].substring(end);
            Set<String> found = heading.startsWith("Promise") ? itemsOf(body) : sentencesOf(body);
            sentences.put(heading, found);
            unquoted.put(heading, new LinkedHashSet<>(found));
        }
    }

    private static String read(Path path) {
        try {
            return Files.readString(path);
        } catch (IOException e) {
            throw new UncheckedIOException(e);
        }
    }

    private static String oneLine(String words) {
        return words.strip().replaceAll("\\s+", " ");
    }

    private static Set<String> sentencesOf(String body) {
        Set<String> found = new LinkedHashSet<>(List.of(oneLine(body).split("(?<=\\.) ")));
        found.remove("");
        return found;
    }

    /** A promise's items: what it does (without the declaration), parameters, what it returns and throws. */
    private static Set<String> itemsOf(String body) {
        Set<String> found = new LinkedHashSet<>();
        for (String item : body.strip().split("\n\\s*\n|\n(?=- )")) {
            String line = oneLine(item).replaceFirst("^`[^`]*`: ", "");
            if (!line.matches(PLAIN_PARAMETER)) {
                found.add(line);
            }
        }
        return found;
    }

    /** The sentence, if it stands under the heading; from then on it counts as quoted. */
    String quote(String heading, String sentence) {
        if (!sentences.containsKey(heading) || !sentences.get(heading).contains(sentence)) {
            return "not in the document under " + heading;
        }
        unquoted.get(heading).remove(sentence);
        return sentence;
    }

    List<String> unquoted(List<String> headings) {
        List<String> left = new ArrayList<>();
        for (String heading : headings) {
            for (String sentence : unquoted.getOrDefault(heading, Set.of("there is no such heading"))) {
                left.add(heading + ": " + sentence);
            }
        }
        return left;
    }
}
