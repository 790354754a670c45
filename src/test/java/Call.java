import java.lang.reflect.InvocationTargetException;
import java.lang.reflect.Method;
import java.lang.reflect.Modifier;
import java.util.HashMap;
import java.util.Map;

/** A call of the public face, read from a text such as "coin(10, 4)"; min and max are the least and greatest int. */
final class Call {
    /** What a call that threw counts as: no method of the face can answer it. */
    static final long THREW = Long.MIN_VALUE;

    private static final Map<String, Method> METHODS = methods();

    private final String text;
    private final Method method;
    private final Object[] arguments;

    private Call(String text, Method method, Object[] arguments) {
        this.text = text;
        this.method = method;
        this.arguments = arguments;
    }

    private static Map<String, Method> methods() {
        Map<String, Method> found = new HashMap<>();
        for (Method method : ChangeGiver.class.getDeclaredMethods()) {
            if (Modifier.isPublic(method.getModifiers())) {
                found.put(method.getName(), method);
            }
        }
        return found;
    }

    static Call of(String text) {
        int open = text.indexOf('(');
        Method method = open < 0 || !text.endsWith(")") ? null : METHODS.get(text.substring(0, open));
        String inside = method == null ? "" : text.substring(open + 1, text.length() - 1);
        String[] parts = inside.isEmpty() ? new String[0] : inside.split(", ");
        if (method == null || parts.length != method.getParameterCount()) {
            throw new IllegalArgumentException("not a call: " + text);
        }
        Object[] arguments = new Object[parts.length];
        for (int i = 0; i < parts.length; i++) {
            boolean isNumber = method.getParameterTypes()[i] == int.class;
            arguments[i] = isNumber ? (Object) number(parts[i]) : (Object) Boolean.valueOf(parts[i]);
        }
        return new Call(text, method, arguments);
    }

    private static int number(String text) {
        switch (text) {
            case "min": return Integer.MIN_VALUE;
            case "max": return Integer.MAX_VALUE;
            default: return Integer.parseInt(text);
        }
    }

    /** The answer; a boolean counts 1 or 0. */
    long on(ChangeGiver x) {
        try {
            Object answer = method.invoke(x, arguments);
            return answer instanceof Boolean is ? (is ? 1L : 0L) : ((Integer) answer).longValue();
        } catch (InvocationTargetException thrown) {
            System.out.println(text + " threw " + thrown.getCause());
            return THREW;
        } catch (IllegalAccessException closed) {
            throw new IllegalStateException(closed);
        }
    }

    @Override
    public String toString() {
        return text;
    }
}
