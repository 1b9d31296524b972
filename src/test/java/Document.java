import java.io.IOException;
import java.nio.file.Files;
import java.nio.file.Path;
import java.util.ArrayList;
import java.util.LinkedHashMap;
import java.util.List;
import java.util.Map;
import java.util.Set;
import java.util.TreeSet;
import java.util.regex.Matcher;
import java.util.regex.Pattern;

/**
 * The sentences of the document by the section or promise in which they stand, and which of them
 * tests have cited. A sentence ends with a full stop, a semicolon or its line.
 */
final class Document {
    private static final Path FILE = Path.of("../shared/DOC.md");
    private static final Pattern HEADING = Pattern.compile("## (Promise \\d+):.*|## (.*)|(\\d)\\. .*");
    /** Words of a sentence about a range, an empty or full state, a choice among equals or a refusal. */
    private static final Pattern BOUNDARY = Pattern.compile("INVALID|NOT_FOUND|\\d|(?i)\\b(a (node|link|format|receiver|level)$|false|at most"
            + "|already|among|empty|nothing|none|no|not|only|exactly|fewe|least|greatest|greater|less|other|otherwise|further|negative|may|all"
            + "|any|too|down|until|as long as|after|each|same|fail|fails|exceed|first|last|latest|initially|without|ascending|descending|open"
            + "|closed|true)\\b");
    private final Map<String, List<String>> sentences = new LinkedHashMap<>();
    private final Set<String> cited = new TreeSet<>();

    Document() throws IOException {
        String place = "";
        boolean code = false;
        for (String line : Files.readAllLines(FILE)) {
            code ^= line.startsWith("```");
            Matcher heading = HEADING.matcher(line);
            if (!code && heading.matches()) {
                place = heading.group(1) != null ? heading.group(1)
                        : heading.group(2) != null ? heading.group(2) : "Section " + heading.group(3);
            } else if (!code && !line.startsWith("----") && !line.startsWith("`")) {
                keep(place, line.trim());
            }
        }
    }

    private void keep(String place, String line) {
        for (String sentence : line.split("(?<=[.;])\\s+")) {
            if (!sentence.isEmpty()) {
                sentences.computeIfAbsent(place, p -> new ArrayList<>()).add(sentence);
            }
        }
    }

    /** The sentence that begins so; null if there is none. A beginning is marked by " .." at its end. */
    String cite(String place, String words) {
        boolean cut = words.endsWith(" ..");
        String begin = cut ? words.substring(0, words.length() - 2) : words;
        for (String sentence : sentences.getOrDefault(place, List.of())) {
            if (cut ? sentence.startsWith(begin) : sentence.equals(begin)) {
                cited.add(place + ": " + sentence);
                return sentence;
            }
        }
        return null;
    }

    /** The rows of a promise that say what its arguments are. */
    List<String> arguments(String place) {
        List<String> rows = new ArrayList<>(sentences.getOrDefault(place, List.of()));
        rows.removeIf(row -> !row.startsWith("- `"));
        return rows;
    }

    /** What names a boundary, in the sections and promises, and has not been cited. */
    List<String> uncited() {
        List<String> found = new ArrayList<>();
        for (Map.Entry<String, List<String>> entry : sentences.entrySet()) {
            for (String sentence : entry.getValue()) {
                String key = entry.getKey() + ": " + sentence;
                if (entry.getKey().matches("(Section|Promise) \\d+") && BOUNDARY.matcher(sentence).find() && !cited.contains(key)) {
                    found.add(key);
                }
            }
        }
        return found;
    }
}
