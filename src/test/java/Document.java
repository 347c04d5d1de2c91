import java.io.IOException;
import java.nio.file.Files;
import java.nio.file.Path;
import java.util.ArrayList;
import java.util.LinkedHashMap;
import java.util.List;
import java.util.Map;

/** The document from its terms to its last promise, cut into sentences, and which of them were quoted. */
final class Document {
    private static final Path FILE = Path.of("../shared/DOC.md");

    private final Map<String, List<String>> sentences = new LinkedHashMap<>();
    private final Map<String, List<String>> quotes = new LinkedHashMap<>();

    Document() throws IOException {
        if (!isThere()) {
            System.out.println(FILE + " is not there: what is quoted from it cannot be looked up");
            return;
        }
        String section = "";
        for (String line : Files.readAllLines(FILE)) {
            if (line.startsWith("#")) {
                section = nameOf(line);
            } else if (isRead(section) && !line.isBlank()) {
                sentences.computeIfAbsent(section, k -> new ArrayList<>()).addAll(cut(line));
            }
        }
    }

    private static boolean isThere() {
        return Files.exists(FILE);
    }

    private static String nameOf(String heading) {
        String name = heading.replaceFirst("^#+ ", "");
        return name.startsWith("Promise") ? name.replaceFirst(":.*", "") : name;
    }

    private static boolean isRead(String section) {
        return section.startsWith("Promise")
            || List.of("Terms", "Wagons", "Days", "Accounts", "Settings", "Texts", "Changes and errors").contains(section);
    }

    /** What a call returns and what its arguments may be are lists: each part of them counts as a sentence. */
    private static List<String> cut(String line) {
        boolean list = line.startsWith("Returns") || line.startsWith("- ");
        return List.of(line.split(list ? "(?<=;) " : "(?<=\\.) "));
    }

    void quote(String section, String words) {
        quotes.computeIfAbsent(section, k -> new ArrayList<>()).add(words);
        boolean found = false;
        for (String sentence : sentences.getOrDefault(section, List.of())) {
            found |= sentence.contains(words);
        }
        if (isThere()) {
            Calls.due(section + " says: " + words, found ? 1 : 0, 1);
        }
    }

    /** Every sentence must have been quoted, but those that begin with one of these words. */
    void allQuoted(String... others) {
        for (String section : sentences.keySet()) {
            for (String sentence : sentences.get(section)) {
                boolean found = startsWithOne(sentence, others);
                for (String words : quotes.getOrDefault(section, List.of())) {
                    found |= sentence.contains(words);
                }
                Calls.due(section + " has a test of: " + sentence, found ? 1 : 0, 1);
            }
        }
    }

    private static boolean startsWithOne(String sentence, String... beginnings) {
        for (String beginning : beginnings) {
            if (sentence.startsWith(beginning)) {
                return true;
            }
        }
        return false;
    }
}
