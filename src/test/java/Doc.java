import java.io.IOException;
import java.nio.file.Files;
import java.nio.file.Path;
import java.util.LinkedHashMap;
import java.util.Map;
import java.util.regex.Matcher;
import java.util.regex.Pattern;

/** The document by its Terms ("I" to "IX") and promises ("1" to "69"), and what tests quote of it. */
final class Doc {
    private static final Path PLACE = Path.of("../shared/DOC.md");

    private final Map<String, String> texts = new LinkedHashMap<>();
    private final Map<String, boolean[]> quoted = new LinkedHashMap<>();

    Doc() throws IOException {
        String all = Files.readString(PLACE);
        int terms = all.indexOf("## Terms");
        int promises = all.indexOf("## Promise 1:");
        readTerms(all.substring(terms, promises));
        readPromises(all.substring(promises, all.indexOf("## Not promised")));
        texts.forEach((key, text) -> quoted.put(key, new boolean[text.length()]));
    }

    private static String plain(String text) {
        return text.replaceAll("(?m)^```.*$", "").replaceAll("\\s+", " ").trim();
    }

    private void readTerms(String text) {
        Matcher m = Pattern.compile("(?sm)^([IVX]+)\\. (.*?)(?=^[IVX]+\\. |\\z)").matcher(text);
        while (m.find()) {
            texts.put(m.group(1), plain(m.group(2)));
        }
    }

    private void readPromises(String text) {
        Matcher m = Pattern.compile("(?sm)^## Promise (\\d+): [^\n]*\n+`[^`]*`: (.*?)(?=^## |\\z)").matcher(text);
        while (m.find()) {
            texts.put(m.group(1), plain(m.group(2)));
        }
    }

    int sections() {
        return texts.size();
    }

    Iterable<String> keys() {
        return texts.keySet();
    }

    boolean quote(String key, String sentence) {
        int at = texts.getOrDefault(key, "").indexOf(sentence);
        if (at < 0) {
            return false;
        }
        boolean[] marks = quoted.get(key);
        for (int i = at; i < at + sentence.length(); i++) {
            marks[i] = true;
        }
        return true;
    }

    /** What no test has quoted of a section, signs between sentences aside. */
    String unquoted(String key) {
        StringBuilder rest = new StringBuilder();
        String text = texts.get(key);
        boolean[] marks = quoted.get(key);
        for (int i = 0; i < text.length(); i++) {
            rest.append(marks[i] ? ' ' : text.charAt(i));
        }
        return rest.toString().replaceAll("[ .,;:]+", " ").trim();
    }
}
