import java.io.IOException;
import java.nio.file.Files;
import java.nio.file.Path;
import java.util.ArrayList;
import java.util.LinkedHashMap;
import java.util.List;
import java.util.Map;
import java.util.regex.Matcher;
import java.util.regex.Pattern;

/**
 * The document's "What it is" (but for its first paragraph), Terms ("I" .. "VII") and Promises ("1" .. "57"), and which
 * of their words were quoted by a test.
 */
final class Document {
    private final Map<String, String> texts = new LinkedHashMap<>();
    private final Map<String, boolean[]> quoted = new LinkedHashMap<>();

    Document() {
        String all;
        try {
            all = Files.readString(Path.of("../shared/DOC.md"));
        } catch (IOException e) {
            throw new IllegalStateException("there is no ../shared/DOC.md", e);
        }
        String calls = all.substring(all.indexOf("An object is used"), all.indexOf("## The public face"));
        keep("What it is", calls);
        String terms = all.substring(all.indexOf("## Terms"), all.indexOf("## Promise 1:"));
        split(terms.replace("```text", "").replace("```", ""), "(?m)^(I|II|III|IV|V|VI|VII)\\. ");
        String promises = all.substring(all.indexOf("## Promise 1:"), all.indexOf("## Not promised"));
        split(promises, "(?m)^## Promise (\\d+): .*\\s+`[^`]*`: ");
    }

    private void split(String text, String heading) {
        Matcher matcher = Pattern.compile(heading).matcher(text);
        String name = null;
        int from = 0;
        while (matcher.find()) {
            if (name != null) {
                keep(name, text.substring(from, matcher.start()));
            }
            name = matcher.group(1);
            from = matcher.end();
        }
        keep(name, text.substring(from));
    }

    private void keep(String name, String text) {
        String plain = text.replaceAll("\\s+", " ").strip();
        texts.put(name, plain);
        quoted.put(name, new boolean[plain.length()]);
    }

    int sections() {
        return texts.size();
    }

    /** Whether the section has these words, every one of which a test looks at. */
    boolean quote(String section, String words) {
        String text = texts.get(section);
        if (text == null || words.isEmpty()) {
            return false;
        }
        boolean found = false;
        for (int at = text.indexOf(words); at >= 0; at = text.indexOf(words, at + 1)) {
            found = true;
            for (int i = 0; i < words.length(); i++) {
                quoted.get(section)[at + i] = true;
            }
        }
        return found;
    }

    /** What no test has quoted, with its section. */
    List<String> unquoted() {
        List<String> rest = new ArrayList<>();
        for (String section : texts.keySet()) {
            StringBuilder words = new StringBuilder();
            for (int i = 0; i <= texts.get(section).length(); i++) {
                if (i < texts.get(section).length() && !quoted.get(section)[i]) {
                    words.append(texts.get(section).charAt(i));
                } else {
                    if (words.toString().matches(".*[A-Za-z0-9].*")) {
                        rest.add(section + ": " + words);
                    }
                    words.setLength(0);
                }
            }
        }
        return rest;
    }
}
