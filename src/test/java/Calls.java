import java.lang.reflect.InvocationTargetException;
import java.lang.reflect.Method;
import java.lang.reflect.Modifier;
import java.util.ArrayList;
import java.util.List;
import java.util.Map;
import java.util.TreeMap;

/** Calls that stand in a text, such as run(1, 4). */
final class Calls {
    private Calls() {
    }

    static Map<String, Method> face() {
        Map<String, Method> face = new TreeMap<>();
        for (Method m : CraneLimiter.class.getDeclaredMethods()) {
            if (Modifier.isPublic(m.getModifiers())) {
                face.put(m.getName(), m);
            }
        }
        return face;
    }

    /** What the call with this name and this list of numbers answers; the exception's name if it throws. */
    static String answer(CraneLimiter crane, String name, String list) {
        Method method = face().get(name);
        if (method == null) {
            return "no such method";
        }
        List<Object> values = new ArrayList<>();
        for (String value : list.split(", *")) {
            if (!value.isEmpty()) {
                values.add(Integer.valueOf(value));
            }
        }
        try {
            return String.valueOf(method.invoke(crane, values.toArray()));
        } catch (InvocationTargetException e) {
            return e.getCause().getClass().getSimpleName();
        } catch (IllegalAccessException e) {
            return "not accessible";
        }
    }
}
