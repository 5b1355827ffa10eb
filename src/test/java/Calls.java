import java.lang.reflect.InvocationTargetException;
import java.lang.reflect.Method;
import java.lang.reflect.Modifier;
import java.util.HashMap;
import java.util.Map;
import java.util.WeakHashMap;

/**
 * Calls that are written as in a program, such as "vertices(4, 0)", and their answers as texts. An
 * exception is answered by its short name, as !argument. Besides the methods of the class there are
 * three of the tests' own: tell(a text) appends a text and reads it, text(level, line) is the text of
 * a line by describe, and fields(level) are the parcels of all fields, row by row.
 */
final class Calls {
    /** Nothing is promised about an object after its 512th call. */
    private static final int MOST_CALLS = 512;

    private static final Map<MapGeneralizer, Integer> MADE = new WeakHashMap<>();
    private static final Map<String, Method> METHODS = methods();
    private static final Map<String, String> EXCEPTIONS = Map.of(
            "IllegalArgumentException", "!argument", "IllegalStateException", "!state",
            "IndexOutOfBoundsException", "!index", "UnsupportedOperationException", "!unsupported",
            "NoSuchElementException", "!element", "ArithmeticException", "!arithmetic");

    private Calls() {
    }

    private static Map<String, Method> methods() {
        Map<String, Method> methods = new HashMap<>();
        for (Method method : MapGeneralizer.class.getDeclaredMethods()) {
            if (Modifier.isPublic(method.getModifiers())) {
                methods.put(method.getName(), method);
            }
        }
        return methods;
    }

    static String answer(MapGeneralizer map, String call) {
        int open = call.indexOf('(');
        String name = call.substring(0, open);
        String inside = call.substring(open + 1, call.length() - 1);
        String[] numbers = inside.isEmpty() ? new String[0] : inside.split(", ");
        try {
            switch (name) {
                case "tell":
                    count(map, inside.length() + 1);
                    return String.valueOf(Check.tell(map, inside));
                case "text":
                    String text = Check.textOf(map, number(numbers[0]), number(numbers[1]));
                    count(map, text.length() + 1);
                    return text;
                case "fields":
                    count(map, 64);
                    return Check.fieldsOf(map, number(numbers[0]));
                default:
                    count(map, 1);
                    return invoke(map, METHODS.get(name), numbers);
            }
        } catch (RuntimeException e) {
            return nameOf(e);
        }
    }

    private static void count(MapGeneralizer map, int calls) {
        int made = MADE.merge(map, calls, Integer::sum);
        if (made > MOST_CALLS) {
            throw new AssertionError("a test goes beyond " + MOST_CALLS + " calls on one object");
        }
    }

    private static String invoke(MapGeneralizer map, Method method, String[] numbers) {
        Class<?>[] types = method.getParameterTypes();
        Object[] arguments = new Object[types.length];
        for (int i = 0; i < types.length; i++) {
            if (types[i] == boolean.class) {
                arguments[i] = numbers[i].equals("true");
            } else if (types[i] == char.class) {
                arguments[i] = (char) number(numbers[i]);
            } else {
                arguments[i] = number(numbers[i]);
            }
        }
        try {
            return String.valueOf(method.invoke(map, arguments));
        } catch (InvocationTargetException e) {
            return nameOf(e.getCause());
        } catch (IllegalAccessException e) {
            throw new AssertionError(e);
        }
    }

    private static int number(String text) {
        switch (text) {
            case "MIN":
                return Integer.MIN_VALUE;
            case "MAX":
                return Integer.MAX_VALUE;
            default:
                return text.startsWith("'") ? text.charAt(1) : Integer.parseInt(text);
        }
    }

    private static String nameOf(Throwable thrown) {
        return EXCEPTIONS.getOrDefault(thrown.getClass().getSimpleName(), thrown.toString());
    }
}
