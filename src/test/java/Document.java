import java.io.IOException;
import java.nio.file.Files;
import java.nio.file.Path;
import java.util.ArrayList;
import java.util.HashMap;
import java.util.LinkedHashMap;
import java.util.List;
import java.util.Map;

/** The document by sections, and which of its words have been quoted. */
final class Document {
    private static final Path PLACE = Path.of("../shared/DOC.md");
    private static final int PROMISES = 22;

    private final Map<String, String> texts = new LinkedHashMap<>();
    private final Map<String, boolean[]> quoted = new HashMap<>();

    static Document read() {
        Document document = new Document();
        try {
            document.split(Files.readString(PLACE));
        } catch (IOException missing) {
            // the answers are the same without it; only the quotes can't be compared then
            System.out.println("the document can't be read: its words are not compared");
        }
        return document;
    }

    private void split(String whole) {
        for (String part : whole.replaceAll("(?m)^```.*$", "").split("(?m)^## ")) {
            int end = part.indexOf('\n');
            if (end >= 0) {
                String title = part.substring(0, end).replaceAll(":.*", "").strip();
                // what a call is and takes stands ahead of what it promises
                String text = part.substring(end).replaceAll("\\s+", " ").replaceAll("^ `[^`]*`: ", "").strip();
                texts.put(title, text);
                quoted.put(title, new boolean[text.length()]);
            }
        }
    }

    boolean isRead() {
        return !texts.isEmpty();
    }

    /** Whether these words stand in the section, once. */
    boolean quote(String section, String words) {
        String text = texts.getOrDefault(section, "");
        int at = text.indexOf(words);
        if (at < 0 || text.indexOf(words, at + 1) >= 0) {
            return false;
        }
        for (int i = at; i < at + words.length(); i++) {
            quoted.get(section)[i] = true;
        }
        return true;
    }

    /** The words that no quote holds, but for the section of what is not promised. */
    List<String> unquoted() {
        List<String> found = new ArrayList<>();
        addUnquoted("What it is", found);
        addUnquoted("The public face", found);
        addUnquoted("Terms", found);
        for (int promise = 1; promise <= PROMISES; promise++) {
            addUnquoted("Promise " + promise, found);
        }
        return found;
    }

    private void addUnquoted(String section, List<String> found) {
        StringBuilder rest = new StringBuilder();
        String text = texts.getOrDefault(section, "this section is missing");
        for (int i = 0; i < text.length(); i++) {
            boolean[] marks = quoted.get(section);
            rest.append(marks != null && marks[i] ? '\n' : text.charAt(i));
        }
        for (String piece : rest.toString().split("\n+")) {
            if (!piece.isBlank()) {
                found.add(section + ": " + piece.strip());
            }
        }
    }
}
