import java.lang.reflect.Method;
import java.nio.file.Files;
import java.nio.file.Path;
import java.util.BitSet;
import java.util.Map;
import java.util.TreeMap;
import java.util.regex.Matcher;
import java.util.regex.Pattern;

/**
 * The tests at the edges name words of the document: that these stand there, and that every word by
 * which a sentence of the document names an edge stands among them.
 */
public final class SentencesTest {
    private static final Path DOCUMENT = Path.of("../shared/DOC.md");
    private static final int PROMISES = 44;

    private static final Class<?>[] TESTS = {
        BuildingEdgesTest.class, ReadingEdgesTest.class, OperationEdgesTest.class, CreationEdgesTest.class,
        QuestionEdgesTest.class, ProgramEdgesTest.class, TextEdgesTest.class, DescriptionEdgesTest.class};

    private static final Pattern EDGE = Pattern.compile("\\d+ to \\d+|0 to b|at most|at least|(?i:empty|empties)|full"
            + "|out of range|valid|checked|negative|exceed|initial|overflow|already|[Nn]o such|there is none"
            + "|dimension 0|too early|more than|one to five|one or more|one decimal digit|leading zeros"
            + "|first character|starting with|in every case|not a digit|neither|no later|executes nothing"
            + "|modulo|Returns|may be the same|[A-Z]+_[A-Z_]+|NONE|- `");

    public static void main(String[] args) throws Exception {
        Map<Integer, String> sections = sections(Files.readString(DOCUMENT));
        Checks.due("the description and promises in the document", sections.size(), PROMISES + 1);
        Map<Integer, BitSet> named = new TreeMap<>();
        for (Class<?> test : TESTS) {
            for (Method method : Sentences.testsOf(test)) {
                nameWords(method, sections, named);
            }
        }
        for (Map.Entry<Integer, String> section : sections.entrySet()) {
            dueNamed(section.getKey(), section.getValue(), named.getOrDefault(section.getKey(), new BitSet()));
        }
        Checks.finish();
    }

    /** By the number of the promise, the description as 0; in each section any white space is one space. */
    private static Map<Integer, String> sections(String document) {
        Map<Integer, String> sections = new TreeMap<>();
        Pattern section = Pattern.compile("(?ms)^## (?:(Description)|Promise (\\d+): [^\\n]*)\\n(.*?)(?=^## )");
        Matcher matcher = section.matcher(document);
        while (matcher.find()) {
            int number = matcher.group(1) != null ? 0 : Integer.parseInt(matcher.group(2));
            sections.put(number, matcher.group(3).replaceAll("\\s+", " "));
        }
        return sections;
    }

    private static void nameWords(Method method, Map<Integer, String> sections, Map<Integer, BitSet> named) {
        Says says = method.getAnnotation(Says.class);
        String section = sections.getOrDefault(says.promise(), "");
        BitSet places = named.computeIfAbsent(says.promise(), unused -> new BitSet());
        for (String words : says.value()) {
            int at = section.indexOf(words);
            Checks.due(method.getName() + " names what the document says: " + words, at >= 0 ? 1 : 0, 1);
            for (; at >= 0; at = section.indexOf(words, at + 1)) {
                places.set(at, at + words.length());
            }
        }
    }

    private static void dueNamed(int promise, String section, BitSet places) {
        Matcher matcher = EDGE.matcher(section);
        while (matcher.find()) {
            boolean isNamed = places.nextClearBit(matcher.start()) >= matcher.end();
            String around = section.substring(Math.max(0, matcher.start() - 40),
                    Math.min(section.length(), matcher.end() + 40));
            Checks.due("promise " + promise + " has a test at: .." + around + "..", isNamed ? 1 : 0, 1);
        }
    }
}
