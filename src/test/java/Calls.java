import java.lang.reflect.InvocationTargetException;
import java.lang.reflect.Method;
import java.util.regex.Matcher;
import java.util.regex.Pattern;

/** Calls as a text shows them, such as "value(0, 13L)". */
final class Calls {
    private static final Pattern CALL = Pattern.compile("(\\w+)\\(([^()]*)\\)");

    private Calls() {
    }

    static int answer(RegularSequences x, String call) {
        Matcher matcher = CALL.matcher(call);
        if (!matcher.matches()) {
            throw new IllegalArgumentException("no call: " + call);
        }
        String[] texts = matcher.group(2).isEmpty() ? new String[0] : matcher.group(2).split(", ");
        Method method = method(matcher.group(1), texts.length);
        Object[] arguments = new Object[texts.length];
        for (int k = 0; k < texts.length; k++) {
            arguments[k] = argument(texts[k], method.getParameterTypes()[k]);
        }
        try {
            return (Integer) method.invoke(x, arguments);
        } catch (IllegalAccessException | InvocationTargetException fault) {
            throw new IllegalStateException(call, fault);
        }
    }

    private static Method method(String name, int parameters) {
        for (Method method : RegularSequences.class.getMethods()) {
            if (method.getName().equals(name) && method.getParameterCount() == parameters) {
                return method;
            }
        }
        throw new IllegalArgumentException("no method " + name + " of " + parameters + " arguments");
    }

    /** As the compiler takes it: a number that ends with L is no int. */
    private static Object argument(String text, Class<?> type) {
        if (type == int.class) {
            return Integer.valueOf(text);
        }
        return Long.valueOf(text.endsWith("L") ? text.substring(0, text.length() - 1) : text);
    }
}
