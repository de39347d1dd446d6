import java.io.IOException;
import java.nio.file.Files;
import java.nio.file.Path;
import java.util.LinkedHashMap;
import java.util.Map;

/**
 * The sections of ../shared/DOC.md, and which of their words have been quoted. A method's face at
 * the head of its promise is left out: FaceTest looks at it.
 */
final class Document {
    private final Map<String, String> texts = new LinkedHashMap<>();
    private final Map<String, boolean[]> quoted = new LinkedHashMap<>();

    Document(Path file) throws IOException {
        String heading = "";
        for (String line : Files.readAllLines(file)) {
            if (line.startsWith("## ")) {
                heading = line.substring(3).split(":")[0];
            } else {
                texts.merge(heading, line, (before, next) -> before + " " + next);
            }
        }
        texts.replaceAll((name, text) -> text.replaceAll("\\s+", " ").strip()
                .replaceFirst("^`[^`]*`: ", ""));
        texts.forEach((name, text) -> quoted.put(name, new boolean[text.length()]));
    }

    /** Answers whether the words stand there, and remembers where. */
    boolean quote(String heading, String words) {
        int from = texts.getOrDefault(heading, "").indexOf(words);
        if (from < 0 || words.isEmpty()) {
            return false;
        }
        for (int at = from; at < from + words.length(); at++) {
            quoted.get(heading)[at] = true;
        }
        return true;
    }

    /** The words of a section that no test has quoted; nothing when all have been. */
    String unquoted(String heading) {
        if (!texts.containsKey(heading)) {
            return "no such heading";
        }
        StringBuilder left = new StringBuilder();
        String text = texts.get(heading);
        boolean[] done = quoted.get(heading);
        for (int at = 0; at < text.length(); at++) {
            boolean isWord = Character.isLetterOrDigit(text.charAt(at));
            left.append(isWord && !done[at] ? text.charAt(at) : ' ');
        }
        return left.toString().replaceAll("\\s+", " ").strip();
    }
}
