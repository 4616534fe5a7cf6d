import java.io.IOException;
import java.nio.file.Files;
import java.nio.file.Path;
import java.util.List;
import java.util.regex.Pattern;
import java.util.stream.Stream;

/** That each promise has a sentence in the tests of the boundaries, and that each of these tests names one. */
final class BoundsCoverTest {
    private static final Due DUE = new Due();
    private static final int PROMISES = 39;

    public static void main(String[] args) throws IOException {
        StringBuilder all = new StringBuilder();
        for (Path file : files()) {
            String code = Files.readString(file);
            all.append(code);
            namesASentence(file, code);
        }
        for (int promise = 1; promise <= PROMISES; promise++) {
            DUE.due("a sentence of promise " + promise, all.indexOf("BOUNDS.sentence(" + promise + ",") >= 0, true);
        }
        DUE.end();
    }

    private static List<Path> files() throws IOException {
        try (Stream<Path> files = Files.list(Path.of("tests"))) {
            return files.filter(file -> file.getFileName().toString().matches("Bounds(?!Cover)\\w+Test\\.java")).sorted().toList();
        }
    }

    /** Each method that main calls begins with the sentence that it is about. */
    private static void namesASentence(Path file, String code) {
        String main = code.substring(code.indexOf("void main("), code.indexOf("BOUNDS.end();"));
        Pattern.compile("(\\w+)\\(\\);").matcher(main).results().map(call -> call.group(1)).forEach(test ->
                DUE.due(file + ": " + test + " names its sentence", Pattern.compile("private static void " + test
                        + "\\(\\) \\{\\s+BOUNDS\\.sentence\\(").matcher(code).find(), true));
    }
}
