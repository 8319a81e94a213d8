import java.io.IOException;
import java.lang.reflect.Method;
import java.nio.file.Files;
import java.nio.file.Path;
import java.util.BitSet;
import java.util.Map;
import java.util.TreeMap;
import java.util.regex.Matcher;
import java.util.regex.Pattern;

/**
 * Tests name words of the document: that these stand there, that the tests are run, and that every
 * sentence of the description and of the promises stands among them.
 */
public final class SentencesTest {
    private static final Path DOCUMENT = Path.of("../shared/DOC.md");
    private static final Path TESTS_STAND_IN = Path.of("src/test/java");
    private static final int PROMISES = 44;

    private static final Class<?>[] TESTS = {
        BuildingTest.class, OperationsTest.class, QuestionsTest.class, ProgramsTest.class,
        SequencesTest.class, DescriptionTest.class,
        BuildingEdgesTest.class, ReadingEdgesTest.class, OperationEdgesTest.class, CreationEdgesTest.class,
        QuestionEdgesTest.class, ProgramEdgesTest.class, TextEdgesTest.class, DescriptionEdgesTest.class};

    /** The words that name what stands behind them, and promise nothing. */
    private static final String[] TITLES = {
        "A workbench for regular sequences: functions on digit strings that are given by "
            + "linear representations over the integers modulo a prime.",
        "Arithmetic.", "Representations.", "Order of strings.", "Reduction.", "Programs.", "Program errors.",
        "Saved states.", "The constants:",
        "The constructor and the methods follow, a promise each: the signature, then what it does."};

    /** At the head of a promise; LanguageTest looks at these. */
    private static final Pattern SIGNATURE = Pattern.compile("^ ?`[^`]*\\)`");

    /** What may stand between the words that tests name. */
    private static final Pattern JOINT = Pattern.compile("[ ,;:.]*(or)?[ ]*");

    public static void main(String[] args) throws Exception {
        Map<Integer, String> sections = sections(Files.readString(DOCUMENT));
        Checks.due("the description and promises in the document", sections.size(), PROMISES + 1);
        Map<Integer, BitSet> named = new TreeMap<>();
        for (Class<?> test : TESTS) {
            for (Method method : Sentences.testsOf(test)) {
                nameWords(method, sections, named);
                dueRun(test, method);
            }
        }
        for (Map.Entry<Integer, String> section : sections.entrySet()) {
            BitSet places = named.getOrDefault(section.getKey(), new BitSet());
            nameTitles(section.getKey(), section.getValue(), places);
            dueNamed(section.getKey(), section.getValue(), places);
        }
        Checks.finish();
    }

    /**
     * By the number of the promise; 0 for the description and what stands before it. In each section any
     * white space is one space.
     */
    private static Map<Integer, String> sections(String document) {
        Map<Integer, String> sections = new TreeMap<>();
        Pattern section = Pattern.compile(
                "(?ms)^## (?:(What it is|Description)|Promise (\\d+): [^\\n]*)\\n(.*?)(?=^## )");
        Matcher matcher = section.matcher(document);
        while (matcher.find()) {
            int number = matcher.group(1) != null ? 0 : Integer.parseInt(matcher.group(2));
            sections.merge(number, matcher.group(3).replaceAll("\\s+", " "), String::concat);
        }
        return sections;
    }

    private static void nameWords(Method method, Map<Integer, String> sections, Map<Integer, BitSet> named) {
        Says says = method.getAnnotation(Says.class);
        String section = sections.getOrDefault(says.promise(), "");
        BitSet places = named.computeIfAbsent(says.promise(), unused -> new BitSet());
        for (String words : says.value()) {
            boolean found = nameAll(words, section, places);
            Checks.due(method.getName() + " names what the document says: " + words, found ? 1 : 0, 1);
        }
    }

    private static boolean nameAll(String words, String section, BitSet places) {
        int first = section.indexOf(words);
        for (int at = first; at >= 0; at = section.indexOf(words, at + 1)) {
            places.set(at, at + words.length());
        }
        return first >= 0;
    }

    /** A test either runs all that name words, or its main calls each by name. */
    private static void dueRun(Class<?> test, Method method) throws IOException {
        String source = Files.readString(TESTS_STAND_IN.resolve(test.getName() + ".java"));
        boolean isRun = source.contains("Sentences.runAll(" + test.getName() + ".class);")
                || source.contains("\n        " + method.getName() + "();\n");
        Checks.due(test.getName() + " runs " + method.getName(), isRun ? 1 : 0, 1);
    }

    private static void nameTitles(int promise, String section, BitSet places) {
        if (promise > 0) {
            Matcher signature = SIGNATURE.matcher(section);
            Checks.due("promise " + promise + " begins with a signature", signature.find() ? 1 : 0, 1);
            places.set(0, signature.end());
            return;
        }
        for (String title : TITLES) {
            int at = section.indexOf(title);
            Checks.due("the description says: " + title, at >= 0 ? 1 : 0, 1);
            places.set(Math.max(at, 0), Math.max(at, 0) + title.length());
        }
    }

    private static void dueNamed(int promise, String section, BitSet places) {
        int from = places.nextClearBit(0);
        while (from < section.length()) {
            int next = places.nextSetBit(from);
            int to = next < 0 ? section.length() : next;
            String between = section.substring(from, to);
            Checks.due("promise " + promise + " has a test for: " + between,
                    JOINT.matcher(between).matches() ? 1 : 0, 1);
            from = places.nextClearBit(to);
        }
    }
}
