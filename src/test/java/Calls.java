import java.lang.reflect.InvocationTargetException;
import java.lang.reflect.Method;
import java.util.HashMap;
import java.util.Map;

/** Calls an object's public methods by name and answers in text, so that boards and models can be compared. */
final class Calls {
    private static final int SESSIONS = 4;
    private static final int TUPLES = 20;

    private final Object target;
    private final Map<String, Method> methods = new HashMap<>();
    private int highestNumber;

    Calls(Object target) {
        this.target = target;
        for (Method m : target.getClass().getDeclaredMethods()) {
            if (java.lang.reflect.Modifier.isPublic(m.getModifiers())) {
                m.setAccessible(true);
                methods.put(m.getName(), m);
            }
        }
    }

    String call(String name, String... arguments) {
        Method m = methods.get(name);
        if (m == null || m.getParameterCount() != arguments.length) {
            return "no such method";
        }
        Object[] values = new Object[arguments.length];
        for (int i = 0; i < values.length; i++) {
            if (m.getParameterTypes()[i] == long.class) {
                values[i] = Long.valueOf(arguments[i]);
            } else {
                values[i] = Integer.valueOf(arguments[i]);
            }
        }
        return invoke(m, values);
    }

    private String invoke(Method m, Object... values) {
        try {
            String answer = m.invoke(target, values).toString();
            if (m.getName().equals("put") || m.getName().equals("swap")) {
                highestNumber = Math.max(highestNumber, Integer.parseInt(answer));
            }
            return answer;
        } catch (InvocationTargetException e) {
            return "throws." + e.getCause().getClass().getSimpleName();
        } catch (IllegalAccessException e) {
            return "no access";
        }
    }

    int highestNumber() {
        return highestNumber;
    }

    /** All that can be seen of a board by calls that change nothing. */
    String snapshot() {
        StringBuilder text = new StringBuilder(invoke(methods.get("now")));
        for (int s = 0; s < SESSIONS; s++) {
            text.append("\nsession ").append(s);
            look(text, "session", s, 7);
            look(text, "found", s, 11);
            look(text, "seen", s, TUPLES + 1);
        }
        for (int number = 0; number <= highestNumber + 1; number++) {
            text.append("\ntuple ").append(number);
            look(text, "about", number, 12);
        }
        return text.toString();
    }

    private void look(StringBuilder text, String name, int of, int end) {
        for (int what = -1; what <= end; what++) {
            text.append(' ').append(invoke(methods.get(name), of, what));
        }
    }
}
