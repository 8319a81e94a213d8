import java.lang.reflect.Field;
import java.lang.reflect.Method;
import java.lang.reflect.Modifier;
import java.nio.file.Files;
import java.nio.file.Path;
import java.util.ArrayList;
import java.util.List;
import java.util.Set;
import java.util.TreeSet;
import java.util.regex.Matcher;
import java.util.regex.Pattern;

/** The class shows what the document's section "The public face" shows, and nothing else. */
public final class FaceTest {
    private static final Path DOCUMENT = Path.of("../shared/DOC.md");
    private static final int CONSTANTS = 9;
    private static final int METHODS = 43;

    public static void main(String[] args) throws Exception {
        String document = Files.readString(DOCUMENT);
        face(faceIn(document));
        constants(document);
        signatures(document);
        Checks.finish();
    }

    private static void must(String what, boolean holds) {
        Checks.due(what, holds ? 1 : 0, 1);
    }

    private static Set<String> faceIn(String document) {
        Matcher block = Pattern.compile("(?s)\n## The public face\n.*?```java\n(.*?)```").matcher(document);
        must("the document shows the face", block.find());
        Set<String> face = new TreeSet<>();
        for (String line : block.group(1).split("\n")) {
            Matcher constant = Pattern.compile(" *public static final int (\\w+) = -\\d+;").matcher(line);
            Matcher method = Pattern.compile(" *public (int \\w+\\(.*\\));").matcher(line);
            if (constant.matches()) {
                face.add(constant.group(1));
            } else if (method.matches()) {
                face.add(withoutNames(method.group(1)));
            } else {
                must("a line of the face: " + line,
                        line.matches("public final class RegularSequences \\{| *public RegularSequences\\(\\);|\\}"));
            }
        }
        must("the document's face is " + face, face.size() == CONSTANTS + METHODS);
        return face;
    }

    /** "int value(int slot, long n)" becomes "int value(int,long)". */
    private static String withoutNames(String signature) {
        return signature.replaceAll("(int|long) \\w+([,)]) ?", "$1$2");
    }

    /** Both places where the document gives a constant its number. */
    private static void constants(String document) throws ReflectiveOperationException {
        Matcher matcher = Pattern.compile("(?:public static final int |- `)(\\w+) = (-\\d+)").matcher(document);
        int found = 0;
        while (matcher.find()) {
            int number = RegularSequences.class.getField(matcher.group(1)).getInt(null);
            Checks.due(matcher.group(1), number, Integer.parseInt(matcher.group(2)));
            found++;
        }
        Checks.due("numbers of constants", found, 2 * CONSTANTS);
    }

    /** The signature at the head of each promise. */
    private static void signatures(String document) {
        Set<String> found = new TreeSet<>();
        for (Method method : RegularSequences.class.getDeclaredMethods()) {
            found.add(signature(method));
        }
        Matcher matcher = Pattern.compile("\n## Promise \\d+: (.*)\n\n`(.*)`\n").matcher(document);
        int promises = 0;
        while (matcher.find()) {
            boolean isConstructor = matcher.group(1).equals("A new object");
            must(matcher.group(2), isConstructor ? matcher.group(2).equals("RegularSequences()")
                    : matcher.group(2).startsWith("int " + matcher.group(1) + "(")
                            && found.contains(withoutNames(matcher.group(2))));
            promises++;
        }
        Checks.due("promises", promises, METHODS + 1);
    }

    private static void face(Set<String> due) {
        Class<?> face = RegularSequences.class;
        must("public and final", face.getModifiers() == (Modifier.PUBLIC | Modifier.FINAL));
        Set<String> found = new TreeSet<>();
        for (Field field : face.getDeclaredFields()) {
            if (!Modifier.isPrivate(field.getModifiers())) {
                int constant = Modifier.PUBLIC | Modifier.STATIC | Modifier.FINAL;
                must(field.getName(), field.getModifiers() == constant && field.getType() == int.class);
                found.add(field.getName());
            }
        }
        for (Method method : face.getDeclaredMethods()) {
            if (!Modifier.isPrivate(method.getModifiers())) {
                must(method.getName(), method.getModifiers() == Modifier.PUBLIC);
                found.add(signature(method));
            }
        }
        must("the face is " + found, found.equals(due));
        must("one constructor", face.getDeclaredConstructors().length == 1);
        must("without arguments", face.getConstructors()[0].getParameterCount() == 0);
    }

    private static String signature(Method method) {
        List<String> types = new ArrayList<>();
        for (Class<?> type : method.getParameterTypes()) {
            types.add(type.getName());
        }
        return method.getReturnType().getName() + " " + method.getName() + "(" + String.join(",", types) + ")";
    }
}
