import java.io.IOException;
import java.io.UncheckedIOException;
import java.nio.charset.StandardCharsets;
import java.nio.file.Files;
import java.nio.file.Path;
import java.util.Map;
import java.util.TreeMap;

/** The document's Terms and promises, part by part, so that a test's sentence can be held against it. */
final class Document {
    static final String USE = "What it is";
    private static final Path FILE = Path.of("../shared/DOC.md");
    private static final Map<String, String> PARTS = read();

    private Document() {
    }

    /** No parts at all: the document is not there. */
    static Map<String, String> parts() {
        return PARTS;
    }

    static boolean says(String part, String sentence) {
        return PARTS.isEmpty() || PARTS.getOrDefault(part, "").contains(sentence);
    }

    private static Map<String, String> read() {
        Map<String, String> parts = new TreeMap<>();
        if (!Files.exists(FILE)) return parts;
        String part = "";
        for (String line : lines()) {
            part = partFrom(line, part);
            String text = line.replaceFirst("^(#.*|```.*|======== \\d|`[^`]*`:)", "").trim();
            if (!part.isEmpty() && !text.isEmpty()) parts.merge(part, text, (a, b) -> a + " " + b);
        }
        return parts;
    }

    private static Iterable<String> lines() {
        try {
            return Files.readAllLines(FILE, StandardCharsets.UTF_8);
        } catch (IOException e) {
            throw new UncheckedIOException(e);
        }
    }

    /** The part that a line belongs to; none for what tells no more than other parts do. */
    private static String partFrom(String line, String before) {
        if (line.startsWith("An object is used")) return USE;
        if (line.startsWith("## Promise ")) return line.substring(3, line.indexOf(':'));
        if (line.equals("## Terms")) return "Terms 0";
        if (line.startsWith("======== ")) return "Terms " + line.charAt(9);
        if (line.startsWith("## ") || line.startsWith("Ahead of the calls")) return "";
        return before;
    }
}
