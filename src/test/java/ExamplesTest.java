import java.nio.file.Files;
import java.nio.file.Path;
import java.util.regex.Matcher;
import java.util.regex.Pattern;

/** The document's examples as they stand there, each on a new object, each with the answers that it gives. */
public final class ExamplesTest {
    private static final Path DOCUMENT = Path.of("../shared/DOC.md");
    private static final int EXAMPLES = 6;
    private static final int CALLS = 37;

    public static void main(String[] args) throws Exception {
        Matcher section = Pattern.compile("(?s)\n## Examples\n(.*?)\n## ").matcher(Files.readString(DOCUMENT));
        Checks.due("the document has examples", section.find() ? 1 : 0, 1);
        int examples = 0;
        int calls = 0;
        // An example is a line that ends with a colon and the lines behind it that stand two columns in.
        Matcher example = Pattern.compile("(?m)^(\\S.*):\n((?:  \\S.*\n?)+)").matcher(section.group(1));
        while (example.find()) {
            examples++;
            calls += dueExample(example.group(1), example.group(2));
        }
        Checks.due("examples", examples, EXAMPLES);
        Checks.due("calls in them", calls, CALLS);
        Checks.finish();
    }

    private static int dueExample(String title, String text) {
        RegularSequences x = new RegularSequences();
        int calls = 0;
        for (String row : text.trim().split(";\\s*")) {
            String[] sides = row.split(" = ");
            Checks.due(title + ": " + row, Calls.answer(x, sides[0]), Integer.parseInt(sides[1]));
            calls++;
        }
        return calls;
    }
}
