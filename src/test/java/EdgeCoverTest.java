import java.io.IOException;
import java.nio.charset.StandardCharsets;
import java.nio.file.DirectoryStream;
import java.nio.file.Files;
import java.nio.file.Path;
import java.util.Map;
import java.util.TreeMap;
import java.util.regex.Matcher;
import java.util.regex.Pattern;

/** Every sentence of the document's Terms and promises is named in the first line of a boundary test. */
public final class EdgeCoverTest {
    private static final Pattern FIRST_LINE = Pattern.compile(
        "void \\w+\\([^)]*\\) \\{\\s+Edge\\.(?:(promise)\\((\\d+)|(terms)\\((\\d), \\d+|(use)\\()(?:, )?\"([^\"]+)\"\\);");
    private static final Pattern WORDS = Pattern.compile("[A-Za-z0-9][^\u0000]*");

    public static void main(String[] args) throws IOException {
        Map<String, String> left = new TreeMap<>(Document.parts());
        if (left.isEmpty()) System.out.println("there is no document to hold the tests against");
        int tests = 0;
        try (DirectoryStream<Path> files = Files.newDirectoryStream(Path.of("src/test/java"), "Edge*Test.java")) {
            for (Path file : files) tests += strike(left, Files.readString(file, StandardCharsets.UTF_8));
        }
        Due.is("there are tests", tests > 0 ? 1 : 0, 1);
        for (Map.Entry<String, String> part : left.entrySet()) {
            Matcher words = WORDS.matcher(part.getValue());
            while (words.find()) Due.is(part.getKey() + " has no test of '" + words.group() + "'", 1, 0);
        }
        System.out.println(tests + " sentences have a test of their own");
        Due.end();
    }

    /** Strikes out of each part what a file's tests name: how many tests it has. */
    private static int strike(Map<String, String> left, String source) {
        int tests = 0;
        Matcher m = FIRST_LINE.matcher(source);
        while (m.find()) {
            tests++;
            String part = m.group(1) != null ? "Promise " + m.group(2) : m.group(3) != null ? "Terms " + m.group(4) : Document.USE;
            String sentence = m.group(6);
            left.computeIfPresent(part, (name, text) -> struck(name, text, sentence));
        }
        return tests;
    }

    /** What was struck is kept as long as it was, so that sentences that share words are all found. */
    private static String struck(String part, String text, String sentence) {
        String whole = Document.parts().get(part);
        StringBuilder rest = new StringBuilder(text);
        for (int at = whole.indexOf(sentence); at >= 0; at = whole.indexOf(sentence, at + 1)) {
            for (int i = at; i < at + sentence.length(); i++) rest.setCharAt(i, '\u0000');
        }
        return rest.toString();
    }
}
