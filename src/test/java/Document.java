import java.io.IOException;
import java.nio.file.Files;
import java.nio.file.Path;
import java.util.Arrays;
import java.util.Map;
import java.util.TreeMap;

/** The parts of ../shared/DOC.md that make promises, as texts of one line each, and which words of them are quoted. */
final class Document {
    private static final Path PLACE = Path.of("../shared/DOC.md");

    private final Map<String, String> texts = new TreeMap<>();
    private final Map<String, boolean[]> quoted = new TreeMap<>();

    Document() throws IOException {
        for (String part : Files.readString(PLACE).split("(?m)^## ")) {
            int end = part.indexOf('\n');
            String title = end < 0 ? part : part.substring(0, end);
            String name = title.startsWith("Promise ") ? title.substring(0, title.indexOf(':')) : title;
            if (end >= 0 && (title.startsWith("Promise ") || title.equals("Terms") || title.equals("What it is"))) {
                add(name, part.substring(end).strip().replaceAll("\\s+", " "));
            }
        }
    }

    private void add(String part, String text) {
        String told = part.startsWith("Promise ") ? text.substring(text.indexOf("`:") + 2) : text;
        texts.put(part, told);
        quoted.put(part, new boolean[told.length()]);
    }

    Iterable<String> parts() {
        return texts.keySet();
    }

    /** Whether these words stand in the part; from then on they count as quoted. */
    boolean has(String part, String words) {
        String text = texts.getOrDefault(part, "");
        int from = text.indexOf(words);
        boolean found = from >= 0;
        while (from >= 0) {
            Arrays.fill(quoted.get(part), from, from + words.length(), true);
            from = text.indexOf(words, from + 1);
        }
        return found;
    }

    /** The words of the part that no quote has had. */
    String unquoted(String part) {
        StringBuilder left = new StringBuilder();
        for (int i = 0; i < texts.get(part).length(); i++) {
            left.append(quoted.get(part)[i] ? ' ' : texts.get(part).charAt(i));
        }
        return left.toString().replaceAll("[^A-Za-z0-9]+", " ").strip();
    }
}
