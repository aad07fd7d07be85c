import java.io.IOException;
import java.io.UncheckedIOException;
import java.nio.file.Files;
import java.nio.file.Path;
import java.util.Arrays;
import java.util.LinkedHashMap;
import java.util.Map;

/** The words of ../shared/DOC.md, part by part, and which of them a test has named as its own. */
final class Document {
    private static final Path SOURCE = Path.of("../shared/DOC.md");
    private static final int PROMISES = 54;
    private static final Map<String, String> PARTS = readParts();
    private static final Map<String, boolean[]> NAMED = new LinkedHashMap<>();

    private Document() {
    }

    private static Map<String, String> readParts() {
        String whole;
        try {
            whole = Files.readString(SOURCE);
        } catch (IOException e) {
            throw new UncheckedIOException(e);
        }
        Map<String, String> parts = new LinkedHashMap<>();
        for (String part : whole.split("\n## ")) {
            int end = Math.max(part.indexOf('\n'), 0);
            String name = part.substring(0, end).replaceAll(":.*", "").strip();
            parts.put(name, plain(part.substring(end)));
        }
        return parts;
    }

    /** Without fences, numbers of paragraphs and the line of the face, which are no sentences. */
    private static String plain(String text) {
        return text.replaceAll("```\\w*", "").replaceAll("==== \\d\\.", "").replaceAll("^\\s*`[^`]*`: ", "")
            .replaceAll("\\s+", " ");
    }

    static void terms(String words) {
        says("Terms", words);
    }

    static void promise(int number, String words) {
        says("Promise " + number, words);
    }

    /** A test that follows is for these words: they stand there, and no other test has named them. */
    static void says(String part, String words) {
        Check.about(part + ", '" + words + "'");
        String text = PARTS.getOrDefault(part, "");
        boolean[] named = NAMED.computeIfAbsent(part, p -> new boolean[text.length()]);
        int at = text.indexOf(words);
        while (at >= 0 && named[at]) {
            at = text.indexOf(words, at + 1);
        }
        Check.due("the document says so", at >= 0, true);
        if (at >= 0) {
            Arrays.fill(named, at, at + words.length(), true);
        }
    }

    static void everyWordIsNamed() {
        everyWordOf("Terms");
        for (int i = 1; i <= PROMISES; i++) {
            everyWordOf("Promise " + i);
        }
    }

    static void everyWordOf(String part) {
        Check.about("the document");
        Check.due("there is a part " + part, PARTS.containsKey(part), true);
        String text = PARTS.getOrDefault(part, "");
        boolean[] named = NAMED.getOrDefault(part, new boolean[text.length()]);
        StringBuilder left = new StringBuilder();
        for (int i = 0; i < text.length(); i++) {
            left.append(named[i] ? '\n' : text.charAt(i));
        }
        for (String run : left.toString().split("\n+")) {
            boolean hasWords = run.chars().anyMatch(Character::isLetterOrDigit);
            Check.due(part + ": a test for '" + run.strip() + "'", hasWords, false);
        }
    }
}
