import java.io.IOException;
import java.nio.file.Files;
import java.nio.file.Path;
import java.util.ArrayList;
import java.util.LinkedHashMap;
import java.util.List;
import java.util.Map;
import java.util.regex.Matcher;
import java.util.regex.Pattern;

/**
 * The remarks of the tests of boundary cases: each is in the document, in the section that it names, and what the
 * document says of arguments, answers and terms stands beside some test.
 */
public final class QuotesTest {
    private static final String[] FILES = {"EdgesOfTermsTest", "EdgesOfPlaysTest", "EdgesOfActionsTest",
        "EdgesOfLookingTest"};
    private static final String[] TERMS = {"Terms", "Stage and pictures", "Puppets", "Order and lines", "Clashes",
        "Frames and turns", "Plays", "Undo", "Errors"};
    private static final String[] WITHOUT_BOUNDARIES = {"All numbers are whole.",
        "The puppets have an order, from the first one to the last one.",
        "act = [ number ] \"(\" play \")\" | letter [ number { \",\" number } ] \";\"",
        "Ahead of the calls `setRow`, `come`, `leave`, `move`, `turn`, `lift`, `lower` the interface says: ---- pictures"
            + " and puppets.",
        "Ahead of the calls `setLimit`, `setRule`, `frame`, `undo` the interface says: ---- frames.",
        "Ahead of the calls `append`, `clearText`, `run`, `failure` the interface says: ---- plays.",
        "Ahead of the calls `count`, `puppet`, `line`, `shown`, `dot`, `clash` the interface says: ---- looking."};
    private static final Pattern REMARK = Pattern.compile("/\\*\\*[\\s*]*\\[([^\\]]+)\\]([^/]*)\\*/");
    private static final Check check = new Check();

    public static void main(String[] args) throws IOException {
        Map<String, String> document = sections();
        Map<String, List<String>> quotes = quotes();
        for (Map.Entry<String, List<String>> one : quotes.entrySet()) {
            String section = document.getOrDefault(one.getKey(), "");
            for (String quote : one.getValue()) {
                check.due("[" + one.getKey() + "] says '" + quote + "'", section.contains(quote) ? 1 : 0, 1);
            }
        }
        for (String term : TERMS) {
            String rest = document.getOrDefault(term, "?");
            check.due("beside no test of [" + term + "] stands '" + left(rest, quotes.get(term)) + "'",
                left(rest, quotes.get(term)).length(), 0);
        }
        for (int promise = 1; promise <= 26; promise++) {
            everyPart("Promise " + promise, quotes.getOrDefault("Promise " + promise, List.of()));
        }
        check.end();
    }

    /** What is left of a section without its quotes. */
    private static String left(String section, List<String> quotes) {
        List<String> all = new ArrayList<>(List.of(WITHOUT_BOUNDARIES));
        if (quotes != null) {
            all.addAll(quotes);
        }
        // A quote that is a part of another one would spoil it.
        all.sort((one, other) -> other.length() - one.length());
        String rest = section;
        for (String quote : all) {
            rest = rest.replace(quote, "");
        }
        return rest.trim();
    }

    /** The lines on arguments and on the answer are each quoted as a whole. */
    private static void everyPart(String promise, List<String> quotes) throws IOException {
        String key = "";
        for (String line : Files.readAllLines(Path.of("../shared/DOC.md"))) {
            if (line.startsWith("#")) {
                key = key(line);
            } else if (key.equals(promise) && (line.startsWith("- ") || line.startsWith("Returns"))) {
                String part = plain(line);
                check.due("[" + promise + "] has a test of '" + part + "'", quotes.contains(part) ? 1 : 0, 1);
            }
        }
    }

    private static String key(String heading) {
        String name = heading.replaceFirst("^#+ ", "");
        return name.startsWith("Promise") ? name.replaceFirst(":.*", "") : name;
    }

    private static String plain(String text) {
        return text.replaceAll("(?m)^\\s*\\* ?", "").replaceAll("(?m)^- ", "").replace("```text", "").replace("```", "")
            .replaceAll("\\s+", " ").trim();
    }

    private static Map<String, String> sections() throws IOException {
        Map<String, String> result = new LinkedHashMap<>();
        String key = "";
        for (String line : Files.readAllLines(Path.of("../shared/DOC.md"))) {
            if (line.startsWith("#")) {
                key = key(line);
            } else {
                result.merge(key, line, (before, more) -> before + "\n" + more);
            }
        }
        result.replaceAll((name, text) -> plain(text));
        return result;
    }

    private static Map<String, List<String>> quotes() throws IOException {
        Map<String, List<String>> result = new LinkedHashMap<>();
        for (String file : FILES) {
            Matcher matcher = REMARK.matcher(Files.readString(Path.of("src/test/java/" + file + ".java")));
            while (matcher.find()) {
                result.computeIfAbsent(matcher.group(1), name -> new ArrayList<>()).add(plain(matcher.group(2)));
            }
        }
        return result;
    }
}
