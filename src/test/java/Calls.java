import java.lang.reflect.InvocationTargetException;
import java.lang.reflect.Method;
import java.util.HashMap;
import java.util.List;
import java.util.Map;

/** A new object and the calls on it, each told by its name and arguments with blanks between: "go 0 1". */
final class Calls {
    static final int MOST = 512;
    private static final Map<String, Method> METHODS = new HashMap<>();

    static {
        for (Method m : ChestLetters.class.getMethods()) {
            if (m.getDeclaringClass() == ChestLetters.class) {
                METHODS.put(m.getName(), m);
            }
        }
    }

    private final ChestLetters object = new ChestLetters();
    private int count;

    static Calls after(List<String> calls) {
        Calls object = new Calls();
        for (String call : calls) {
            object.answer(call);
        }
        return object;
    }

    int left() {
        return MOST - count;
    }

    /** The number that it answers; true or false; or INDEX, ARGUMENT or STATE for what it throws. */
    String answer(String call) {
        count++;
        String[] words = call.split(" ");
        Method m = METHODS.get(words[0]);
        if (m == null || m.getParameterCount() != words.length - 1) {
            throw new IllegalArgumentException("the test asks for no call of the face: " + call);
        }
        try {
            return String.valueOf(m.invoke(object, arguments(m, words)));
        } catch (InvocationTargetException e) {
            return nameOf(e.getCause().getClass());
        } catch (IllegalAccessException e) {
            return "no access";
        }
    }

    private static Object[] arguments(Method m, String[] words) {
        Object[] arguments = new Object[words.length - 1];
        for (int i = 0; i < arguments.length; i++) {
            boolean isLong = m.getParameterTypes()[i] == long.class;
            String word = words[i + 1];
            // One by one: a choice by ?: would make both of them a long.
            if (isLong) {
                arguments[i] = Long.valueOf(word);
            } else {
                arguments[i] = Integer.valueOf(word);
            }
        }
        return arguments;
    }

    private static String nameOf(Class<?> thrown) {
        if (thrown == IndexOutOfBoundsException.class) {
            return "INDEX";
        }
        if (thrown == IllegalArgumentException.class) {
            return "ARGUMENT";
        }
        return thrown == IllegalStateException.class ? "STATE" : thrown.getName();
    }
}
