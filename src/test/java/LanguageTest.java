import java.lang.reflect.Executable;
import java.lang.reflect.Field;
import java.lang.reflect.Method;
import java.lang.reflect.Modifier;
import java.nio.file.Files;
import java.nio.file.Path;
import java.util.ArrayList;
import java.util.List;
import java.util.Set;
import java.util.TreeSet;
import java.util.regex.Matcher;
import java.util.regex.Pattern;

/** Those rules of LANGUAGE.md that can be seen from outside or in the text. */
public final class LanguageTest {
    private static final Path SOURCE = Path.of("src/main/java/RegularSequences.java");

    public static void main(String[] args) throws Exception {
        classesInside();
        namesOfPrivateMethods();
        String code = withoutCommentsAndTexts(Files.readString(SOURCE));
        wordsThatMustNotStand(code);
        imports(code);
        lengthOfMethods(Files.readAllLines(SOURCE));
        Checks.finish();
    }

    private static void must(String what, boolean holds) {
        Checks.due(what, holds ? 1 : 0, 1);
    }

    private static List<Class<?>> all() {
        List<Class<?>> all = new ArrayList<>(List.of(RegularSequences.class.getDeclaredClasses()));
        all.add(RegularSequences.class);
        return all;
    }

    private static void classesInside() {
        must("at most twelve classes", all().size() <= 12);
        for (Class<?> type : all()) {
            must(type + " is static", type == RegularSequences.class || Modifier.isStatic(type.getModifiers()));
            int fields = 0;
            for (Field field : type.getDeclaredFields()) {
                boolean isStatic = Modifier.isStatic(field.getModifiers());
                must(field + " is final", !isStatic || Modifier.isFinal(field.getModifiers()));
                fields += isStatic ? 0 : 1;
            }
            must(type + " has at most twenty fields", fields <= 20);
            List<Executable> executables = new ArrayList<>(List.of(type.getDeclaredMethods()));
            executables.addAll(List.of(type.getDeclaredConstructors()));
            for (Executable executable : executables) {
                must(executable + " has at most seven parameters", executable.getParameterCount() <= 7);
            }
        }
    }

    private static void namesOfPrivateMethods() {
        Set<String> names = new TreeSet<>(List.of("equals", "hashCode", "toString"));
        for (Method method : RegularSequences.class.getMethods()) {
            names.add(method.getName());
        }
        for (Class<?> type : all()) {
            for (Method method : type.getDeclaredMethods()) {
                must(method + " has a name of its own", Modifier.isPublic(method.getModifiers()) || !names.contains(method.getName()));
            }
        }
    }

    private static String withoutCommentsAndTexts(String source) {
        return source.replaceAll("(?s)/\\*.*?\\*/", " ").replaceAll("//[^\n]*", " ")
                .replaceAll("'.'", "' '").replaceAll("\"[^\"\n]*\"", "\" \"");
    }

    private static void wordsThatMustNotStand(String code) {
        String[] words = {"throw", "throws", "try", "catch", "finally", "synchronized", "assert", "package", "protected",
            "volatile", "transient", "native", "Object", "System\\.(?!arraycopy)", "Exact", "Thread", "Random", "float",
            "var"};
        for (String word : words) {
            Matcher matcher = Pattern.compile("\\b" + word + "\\b").matcher(code);
            must("no " + word, !matcher.find());
        }
        must("no lambda", !code.contains("->"));
        must("no method reference", !code.contains("::"));
        must("no static initialiser", !Pattern.compile("static\\s*\\{").matcher(code).find());
        must("no array of three dimensions", !code.contains("[][][]"));
    }

    private static void imports(String code) {
        Set<String> allowed = Set.of("java.util.Arrays", "java.util.ArrayList", "java.util.List", "java.util.Iterator");
        Matcher matcher = Pattern.compile("import\\s+([^;]+);").matcher(code);
        while (matcher.find()) {
            must("import " + matcher.group(1), allowed.contains(matcher.group(1)));
        }
    }

    /** Methods stand four or eight columns in; each ends where its brace closes in the same column. */
    private static void lengthOfMethods(List<String> lines) {
        Pattern head = Pattern.compile("( {4}| {8})\\w[^=;]*\\([^;]*\\) \\{");
        int methods = 0;
        for (int at = 0; at < lines.size(); at++) {
            Matcher matcher = head.matcher(lines.get(at));
            if (matcher.matches() && !lines.get(at).matches("\\s*(if|for|while|switch|else|do)\\b.*")) {
                int end = at;
                while (!lines.get(end).equals(matcher.group(1) + "}")) {
                    end++;
                }
                methods++;
                must(lines.get(at).trim() + " has at most sixty lines", end - at < 60);
            }
        }
        must("methods are found", methods > 80);
    }
}
