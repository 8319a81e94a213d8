import java.io.IOException;
import java.lang.reflect.Field;
import java.lang.reflect.Method;
import java.lang.reflect.Modifier;
import java.nio.file.Files;
import java.nio.file.Path;
import java.util.Set;
import java.util.TreeSet;
import java.util.regex.Matcher;
import java.util.regex.Pattern;
import java.util.stream.Stream;

/** README.md: that the calls that it shows give the answers that it names, and that it leaves nothing out. */
public final class ReadmeTest {
    private static final Path README = Path.of("README.md");
    private static final Path OWN_TESTS = Path.of("src/test/java");
    private static final Path SHARED_TESTS = Path.of("../shared/tests");

    private static final String NEW_OBJECT = "RegularSequences x = new RegularSequences();";
    private static final Pattern TEXT =
            Pattern.compile("for \\(char ch : \"([^\"]*)\"\\.toCharArray\\(\\)\\) \\{ x\\.append\\(ch\\); \\}");
    private static final Pattern CALL = Pattern.compile("x\\.(\\w+\\([^()]*\\)); +// (?:([A-Z_]+), )?(-?\\d+)(?:: .*)?");
    private static final int BLOCKS = 6;
    private static final int MOST_CALLS = 512;

    public static void main(String[] args) throws Exception {
        String readme = Files.readString(README);
        callsAndAnswers(readme);
        constantsAndNumbers(readme);
        methodsAndTheirAnswers(readme);
        must("how many calls an object is used for", readme.contains("at most 512 calls"));
        tableOfTests(readme);
        commands(readme);
        Checks.finish();
    }

    private static void must(String what, boolean holds) {
        Checks.due(what, holds ? 1 : 0, 1);
    }

    private static void callsAndAnswers(String readme) throws ReflectiveOperationException {
        Matcher block = Pattern.compile("(?ms)^```java\n(.*?)^```").matcher(readme);
        int blocks = 0;
        while (block.find()) {
            blocks++;
            dueBlock("block " + blocks, block.group(1).split("\n"));
        }
        Checks.due("blocks of calls", blocks, BLOCKS);
    }

    private static void dueBlock(String block, String[] lines) throws ReflectiveOperationException {
        Checks.due(block + " begins with a new object", lines[0].equals(NEW_OBJECT) ? 1 : 0, 1);
        RegularSequences x = new RegularSequences();
        int calls = 0;
        for (int k = 1; k < lines.length; k++) {
            Matcher text = TEXT.matcher(lines[k]);
            Matcher call = CALL.matcher(lines[k]);
            if (text.matches()) {
                Workbenches.type(x, text.group(1));
                calls += text.group(1).length();
            } else if (call.matches()) {
                dueAnswer(x, lines[k], call);
                calls++;
            } else {
                must(block + " has a line that is no call with an answer: " + lines[k], false);
            }
        }
        must(block + " has calls, and no more than an object is used for", calls > 0 && calls <= MOST_CALLS);
    }

    private static void dueAnswer(RegularSequences x, String line, Matcher call) throws ReflectiveOperationException {
        int answer = Calls.answer(x, call.group(1));
        Checks.due(line, answer, Integer.parseInt(call.group(3)));
        if (call.group(2) != null) {
            Checks.due(line, answer, RegularSequences.class.getField(call.group(2)).getInt(null));
        }
    }

    private static void constantsAndNumbers(String readme) throws IllegalAccessException {
        for (Field field : RegularSequences.class.getFields()) {
            String row = "| `" + field.getName() + "` | " + field.getInt(null) + " | ";
            must("a row of the table: " + row, readme.contains(row));
        }
    }

    /** Each method stands in one row of the table of answers, and in no other. */
    private static void methodsAndTheirAnswers(String readme) {
        String section = readme.replaceAll("(?s).*\n### What a call answers when it succeeds\n(.*?)\n### .*", "$1");
        Set<String> told = new TreeSet<>();
        Matcher row = Pattern.compile("(?m)^\\| (`.*?`) \\| ").matcher(section);
        while (row.find()) {
            for (String name : row.group(1).replace("`", "").split(", ")) {
                must(name + " is told once", told.add(name));
            }
        }
        Set<String> due = new TreeSet<>();
        for (Method method : RegularSequences.class.getDeclaredMethods()) {
            if (Modifier.isPublic(method.getModifiers())) {
                due.add(method.getName());
            }
        }
        must("the methods are " + told, told.equals(due));
    }

    private static Set<String> namesIn(Path directory, String ending) throws IOException {
        Set<String> names = new TreeSet<>();
        try (Stream<Path> files = Files.list(directory)) {
            files.map(file -> file.getFileName().toString()).filter(name -> name.endsWith(ending))
                    .forEach(name -> names.add(name.replace(".java", "")));
        }
        return names;
    }

    private static void tableOfTests(String readme) throws IOException {
        Set<String> told = new TreeSet<>();
        Matcher row = Pattern.compile("(?m)^\\| `(\\w+Test)` \\| ").matcher(readme);
        while (row.find()) {
            told.add(row.group(1));
        }
        must("the tests are " + told, told.equals(namesIn(OWN_TESTS, "Test.java")));
    }

    /** What the commands name is there. */
    private static void commands(String readme) throws IOException {
        must("how all tests are run", readme.contains("\n```\n.ci/run\n```\n") && Files.isExecutable(Path.of(".ci/run")));
        Set<String> tests = namesIn(OWN_TESTS, "Test.java");
        tests.addAll(namesIn(SHARED_TESTS, ".java"));
        Matcher command = Pattern.compile("(?m)^java -cp \\S+ (\\w+)$").matcher(readme);
        int commands = 0;
        while (command.find()) {
            commands++;
            must("there is a test " + command.group(1), tests.contains(command.group(1)));
        }
        Checks.due("how one test is run, of either kind", commands, 2);
    }
}
