import java.io.IOException;
import java.io.UncheckedIOException;
import java.nio.charset.StandardCharsets;
import java.nio.file.DirectoryStream;
import java.nio.file.Files;
import java.nio.file.Path;
import java.util.ArrayList;
import java.util.Comparator;
import java.util.List;
import java.util.Set;
import java.util.TreeSet;
import java.util.regex.Matcher;
import java.util.regex.Pattern;
import java.util.stream.Stream;

/** What README.md says of the class's use and of its tests holds, when it is done as it is written there. */
public final class ReadmeTest {
    private static final String README = read(Path.of("README.md"));

    public static void main(String[] args) throws IOException, InterruptedException {
        example();
        runTests();
        calls();
        refusals();
        tests();
        Due.end();
    }

    private static void example() throws IOException, InterruptedException {
        String written = read(Path.of("src/example/java/Example.java"));
        Due.is("the program in README.md is the example", block("java", 0).equals(written) ? 1 : 0, 1);
        String printed = done(block("sh", 0));
        Due.is("README.md says what the example prints, which is\n" + printed, block("text", 0).equals(printed) ? 1 : 0, 1);
    }

    private static void runTests() throws IOException, InterruptedException {
        Due.is("README.md says how all tests are run", block("sh", 1).equals(".ci/run\n") ? 1 : 0, 1);
        Due.is(".ci/run can be run", Files.isExecutable(Path.of(".ci/run")) ? 1 : 0, 1);
        String printed = done(block("sh", 2));
        Due.is("one test alone prints\n" + printed, printed.endsWith(" 0 not as due\n") ? 1 : 0, 1);
    }

    private static void calls() {
        for (String call : Calls.names()) {
            Matcher told = Pattern.compile("^\\| `" + call + "\\(([^)]*)\\)` \\| \\S", Pattern.MULTILINE).matcher(README);
            boolean found = told.find();
            Due.is("README.md tells of " + call, found ? 1 : 0, 1);
            if (!found) continue;
            int arguments = told.group(1).isEmpty() ? 0 : told.group(1).split(", ").length;
            Due.is("arguments of " + call + " in README.md", arguments, Calls.arguments(call));
        }
    }

    private static void refusals() {
        Due.is("NONE is told", README.contains("`PaperedOver.NONE`, " + Due.NONE + " ") ? 1 : 0, 1);
        Due.is("BAD is told", README.contains("`PaperedOver.BAD`, " + Due.BAD + " ") ? 1 : 0, 1);
        Due.is("STATE is told", README.contains("`PaperedOver.STATE`, " + Due.STATE + " ") ? 1 : 0, 1);
        Due.is("FULL is told", README.contains("`PaperedOver.FULL`, " + Due.FULL + " ") ? 1 : 0, 1);
        Due.is("findings are told", README.contains("| " + Due.NULL + " to " + Due.STORE + " |") ? 1 : 0, 1);
        Due.is("the place of a fault", Due.house(new PaperedOver(), "wall 1780 42 260;"), -1000100 - 10);
    }

    private static void tests() throws IOException {
        Set<String> there = new TreeSet<>();
        try (DirectoryStream<Path> files = Files.newDirectoryStream(Path.of("src/test/java"), "*Test.java")) {
            for (Path file : files) there.add(file.getFileName().toString().replace(".java", ""));
        }
        Set<String> told = new TreeSet<>();
        Matcher names = Pattern.compile("`(\\w+Test)`").matcher(README);
        while (names.find()) told.add(names.group(1));
        Due.is("README.md tells of " + told + ", there are " + there, told.equals(there) ? 1 : 0, 1);
    }

    private static String read(Path file) {
        try {
            return Files.readString(file, StandardCharsets.UTF_8);
        } catch (IOException e) {
            throw new UncheckedIOException(e);
        }
    }

    /** The lines between fences of a sort, of which there may be several. */
    private static String block(String sort, int which) {
        List<String> blocks = new ArrayList<>();
        Matcher m = Pattern.compile("^```" + sort + "\n(.*?)^```$", Pattern.MULTILINE | Pattern.DOTALL).matcher(README);
        while (m.find()) blocks.add(m.group(1));
        Due.is("README.md has block " + which + " of " + sort, which < blocks.size() ? 1 : 0, 1);
        return which < blocks.size() ? blocks.get(which) : "";
    }

    /** Does what is written in a copy of the sources, so that nothing is left behind here: what it printed. */
    private static String done(String commands) throws IOException, InterruptedException {
        Path copy = Files.createTempDirectory("readme");
        try {
            copyTree(Path.of("src"), copy);
            ProcessBuilder shell = new ProcessBuilder("sh", "-e", "-c", commands).directory(copy.toFile());
            Process p = shell.redirectError(ProcessBuilder.Redirect.INHERIT).start();
            String printed = new String(p.getInputStream().readAllBytes(), StandardCharsets.UTF_8);
            Due.is(commands + "printed\n" + printed + "and", p.waitFor(), 0);
            return printed;
        } finally {
            remove(copy);
        }
    }

    private static void copyTree(Path from, Path to) throws IOException {
        List<Path> all;
        try (Stream<Path> walk = Files.walk(from)) {
            all = walk.sorted().toList();
        }
        for (Path file : all) Files.copy(file, to.resolve(file.toString()));
    }

    private static void remove(Path tree) throws IOException {
        List<Path> all;
        try (Stream<Path> walk = Files.walk(tree)) {
            all = walk.sorted(Comparator.reverseOrder()).toList();
        }
        for (Path file : all) Files.delete(file);
    }
}
