import java.io.IOException;
import java.nio.file.Files;
import java.nio.file.Path;
import java.util.ArrayList;
import java.util.LinkedHashMap;
import java.util.List;
import java.util.Map;
import java.util.Set;

/** The document's words by section, and which of them no test has quoted yet. */
final class Document {
    // The face is FaceTest's; what is not promised has no answer that could be wrong.
    private static final Set<String> QUOTED_BY_NO_SENTENCE = Set.of("The public face", "Not promised");

    private final Map<String, String> words = new LinkedHashMap<>();
    private final Map<String, boolean[]> quoted = new LinkedHashMap<>();

    /** A promise's section goes by its number, every other one by its heading. */
    static Document read(Path path) throws IOException {
        Document document = new Document();
        String[] sections = Files.readString(path).split("(?m)^## ");
        for (int i = 1; i < sections.length; i++) {
            String[] headAndBody = sections[i].split("\n", 2);
            String name = headAndBody[0].replaceFirst("^Promise (\\d+):.*", "$1");
            document.add(name, headAndBody[1].replaceAll("\\s+", " ").strip());
        }
        return document;
    }

    private void add(String section, String body) {
        // The call that a promise's section begins with is the face's, and no sentence.
        String sentences = body.replaceFirst("^`[^`]*`: ", "");
        words.put(section, sentences);
        quoted.put(section, new boolean[sentences.length()]);
    }

    /** False if the section has no such words. */
    boolean quote(String section, String quote) {
        int at = words.getOrDefault(section, "").indexOf(quote);
        for (int i = 0; at >= 0 && i < quote.length(); i++) {
            quoted.get(section)[at + i] = true;
        }
        return at >= 0;
    }

    List<String> notQuoted() {
        List<String> left = new ArrayList<>();
        for (String section : words.keySet()) {
            if (!QUOTED_BY_NO_SENTENCE.contains(section)) {
                left.addAll(notQuotedIn(section));
            }
        }
        return left;
    }

    private List<String> notQuotedIn(String section) {
        StringBuilder rest = new StringBuilder();
        for (int i = 0; i < words.get(section).length(); i++) {
            rest.append(quoted.get(section)[i] ? '\n' : words.get(section).charAt(i));
        }
        List<String> left = new ArrayList<>();
        for (String part : rest.toString().split("\n+")) {
            if (part.chars().anyMatch(Character::isLetterOrDigit)) {
                left.add(section + ": " + part.strip());
            }
        }
        return left;
    }
}
