import java.nio.charset.StandardCharsets;
import java.nio.file.Files;
import java.nio.file.Path;
import java.util.ArrayList;
import java.util.LinkedHashMap;
import java.util.List;
import java.util.Map;
import java.util.regex.Matcher;
import java.util.regex.Pattern;

/** The document by its Terms and promises, and what of it has been quoted by a test. */
final class Doc {
    private final Map<String, String> texts = new LinkedHashMap<>();
    private final Map<String, boolean[]> quoted = new LinkedHashMap<>();

    static Doc read(String file) throws Exception {
        String all = Files.readString(Path.of(file), StandardCharsets.UTF_8);
        Doc doc = new Doc();
        doc.keepAll(Pattern.compile("(?s)==== (\\d)\\. (.*?)(?=====|The constants:)").matcher(all), "Term ");
        doc.keepAll(Pattern.compile("(?s)## Promise (\\d+): [^\\n]*\\n\\n`[^`]*`: (.*?)\\n(?=\\n##)").matcher(all),
                "Promise ");
        return doc;
    }

    private void keepAll(Matcher parts, String head) {
        while (parts.find()) {
            String text = parts.group(2).replace("```text", " ").replace("```", " ").replaceAll("\\s+", " ").trim();
            texts.put(head + parts.group(1), text);
            quoted.put(head + parts.group(1), new boolean[text.length()]);
        }
    }

    int parts() {
        return texts.size();
    }

    /** Whether the quote stands in that part; a place that is not quoted yet comes first. */
    boolean quote(String part, String quote) {
        if (!texts.containsKey(part)) {
            return false;
        }
        String text = texts.get(part);
        int first = text.indexOf(quote);
        if (first < 0) {
            return false;
        }
        int at = first;
        while (at >= 0 && isQuoted(part, at, quote.length())) {
            at = text.indexOf(quote, at + 1);
        }
        int from = at < 0 ? first : at;
        for (int i = from; i < from + quote.length(); i++) {
            quoted.get(part)[i] = true;
        }
        return true;
    }

    private boolean isQuoted(String part, int at, int length) {
        for (int i = at; i < at + length; i++) {
            if (!quoted.get(part)[i]) {
                return false;
            }
        }
        return true;
    }

    /** What no test has quoted, but for signs and blanks. */
    List<String> left() {
        List<String> list = new ArrayList<>();
        for (String part : texts.keySet()) {
            String text = texts.get(part);
            StringBuilder gap = new StringBuilder();
            for (int i = 0; i <= text.length(); i++) {
                if (i < text.length() && !quoted.get(part)[i]) {
                    gap.append(text.charAt(i));
                } else {
                    if (gap.chars().anyMatch(Character::isLetterOrDigit)) {
                        list.add(part + ": " + gap);
                    }
                    gap.setLength(0);
                }
            }
        }
        return list;
    }
}
