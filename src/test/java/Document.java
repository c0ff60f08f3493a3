import java.io.IOException;
import java.nio.file.Files;
import java.nio.file.Path;
import java.util.ArrayList;
import java.util.LinkedHashMap;
import java.util.List;
import java.util.Map;
import java.util.regex.Matcher;
import java.util.regex.Pattern;

/** The words of ../shared/DOC.md: the terms by their parts, "I" to "IV", the promises by their numbers, "1" to "35". */
final class Document {
    private static final Path PLACE = Path.of("../shared/DOC.md");
    private static final Pattern BEGIN = Pattern.compile("(?m)^(?:## Promise (\\d+):.*|(I|II|III|IV)\\. |## (?:Terms|Not promised)|The constants: )");

    private final Map<String, String> parts = new LinkedHashMap<>();
    private final Map<String, boolean[]> quoted = new LinkedHashMap<>();

    Document() throws IOException {
        String text = Files.readString(PLACE);
        Matcher begin = BEGIN.matcher(text);
        String name = "ahead";
        int from = 0;
        while (begin.find()) {
            put(name, text.substring(from, begin.start()));
            name = begin.group(1) != null ? begin.group(1) : begin.group(2) != null ? begin.group(2) : begin.group().trim();
            from = begin.end();
        }
        put(name, text.substring(from));
    }

    private void put(String name, String words) {
        String plain = words.replace("```text", " ").replace("```", " ").replaceAll("\\s+", " ");
        parts.put(name, plain);
        quoted.put(name, new boolean[plain.length()]);
    }

    /** Whether these words stand in that part; they count as quoted from then on. */
    boolean says(String part, String words) {
        int at = parts.getOrDefault(part, "").indexOf(words);
        for (int k = 0; at >= 0 && k < words.length(); k++) {
            quoted.get(part)[at + k] = true;
        }
        return at >= 0;
    }

    boolean isQuoted(String part) {
        for (boolean one : quoted.getOrDefault(part, new boolean[0])) {
            if (one) {
                return true;
            }
        }
        return false;
    }

    /** What nobody has quoted yet, part by part. */
    List<String> unquoted() {
        List<String> rows = new ArrayList<>();
        for (Map.Entry<String, String> part : parts.entrySet()) {
            StringBuilder bare = new StringBuilder();
            for (int k = 0; k < part.getValue().length(); k++) {
                bare.append(quoted.get(part.getKey())[k] ? '\0' : part.getValue().charAt(k));
            }
            rows.add(part.getKey() + ": " + bare.toString().replaceAll("\0+", " ~ "));
        }
        return rows;
    }
}
