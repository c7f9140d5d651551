import java.io.IOException;
import java.nio.file.Files;
import java.nio.file.Path;
import java.util.regex.Pattern;

/** src/test/SENTENCES.md names tests for each sentence of the document: they must be there and be run. */
public final class SentencesTest {
    private SentencesTest() {
    }

    public static void main(String[] args) throws IOException {
        Check check = new Check("sentences");
        int sentences = 0;
        for (String line : Files.readAllLines(Path.of("src/test/SENTENCES.md"))) {
            String[] cells = line.split("\\|");
            if (cells.length != 3 || !cells[2].contains("Test.")) {
                continue;
            }
            sentences++;
            for (String test : cells[2].trim().split(", ")) {
                compare(check.about(cells[1].trim()), test.split("\\.")[0], test.split("\\.")[1]);
            }
        }
        check.about("the table").that(sentences + " sentences", sentences > 40);
        check.end();
    }

    private static void compare(Check check, String file, String method) throws IOException {
        String source = Files.readString(Path.of("src/test/java/" + file + ".java"));
        check.that(file + " has no " + method,
                Pattern.compile("private (static )?void " + method + "\\(").matcher(source).find());
        check.that(file + " does not run " + method,
                Pattern.compile("(?<!void )\\b" + method + "\\((check\\b|\\))").matcher(source).find());
    }
}
