import java.io.IOException;
import java.nio.charset.StandardCharsets;
import java.nio.file.Files;
import java.nio.file.Path;
import java.util.LinkedHashMap;
import java.util.Map;

/**
 * The document's words and the checks that hold them: each check stands under
 * words quoted from the document, each quote has a check, and of the terms and
 * promises no word stays without a quote.
 */
public final class Sentences {
    private static final Path DOCUMENT = Path.of("..", "shared", "DOC.md");

    private final Checks checks;
    private final Map<String, String> sections = new LinkedHashMap<>();
    private final Map<String, boolean[]> quoted = new LinkedHashMap<>();
    private String quote = "";
    private int askedAhead = 0;

    public Sentences(Checks checks) {
        this.checks = checks;
        if (Files.isReadable(DOCUMENT)) {
            cut(read());
        } else {
            System.out.println(DOCUMENT + " is not there: quotes are not held against it");
        }
    }

    private static String read() {
        try {
            return Files.readString(DOCUMENT, StandardCharsets.UTF_8);
        } catch (IOException e) {
            throw new IllegalStateException("the document can't be read", e);
        }
    }

    /** A section's name ends at the colon of its heading; signatures and fences are no sentences. */
    private void cut(String document) {
        for (String part : document.split("(?m)^## ")) {
            int end = part.indexOf('\n');
            String name = part.substring(0, Math.max(end, 0)).replaceAll(":.*", "").trim();
            String words = part.substring(end + 1).replaceAll("```[a-z]*", " ").replaceAll("`[^`]*`:", " ")
                    .replaceAll("==== \\d\\.", " ").replaceAll("\\s+", " ");
            sections.put(name, words);
            quoted.put(name, new boolean[words.length()]);
        }
    }

    /** What is asked from here on holds these words of a section. */
    public void begin(String section, String words) {
        finish();
        quote = section + ": " + words;
        checks.about(quote);
        askedAhead = checks.asked();
        if (sections.isEmpty()) {
            return;
        }
        String all = sections.getOrDefault(section, "");
        int at = all.indexOf(words);
        if (at < 0 || all.indexOf(words, at + 1) >= 0) {
            checks.due("words that stand once in the document", 1, at < 0 ? 0 : 2);
            return;
        }
        for (int i = at; i < at + words.length(); i++) {
            quoted.get(section)[i] = true;
        }
    }

    private void finish() {
        if (!quote.isEmpty() && checks.asked() == askedAhead) {
            checks.due("has a check", 1, 0);
        }
        quote = "";
    }

    /** Ends the last quote; no word of the terms and promises may be without one. */
    public void end() {
        finish();
        for (Map.Entry<String, String> section : sections.entrySet()) {
            if (section.getKey().matches("Terms|Promise \\d+")) {
                checks.about(section.getKey());
                String bare = bareWords(section.getValue(), quoted.get(section.getKey()));
                checks.due("words without a check: " + bare, 0, bare.length());
            }
        }
    }

    private static String bareWords(String words, boolean[] quoted) {
        StringBuilder bare = new StringBuilder();
        for (int i = 0; i < words.length(); i++) {
            bare.append(quoted[i] || !Character.isLetterOrDigit(words.charAt(i)) ? ' ' : words.charAt(i));
        }
        return bare.toString().replaceAll("\\s+", " ").trim();
    }
}
