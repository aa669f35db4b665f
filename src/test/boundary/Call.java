import java.lang.reflect.InvocationTargetException;
import java.lang.reflect.Method;
import java.util.HashMap;
import java.util.Map;

/** One call of the face, read from a row such as "weigh(2, 99)". */
final class Call {
    private static final Map<String, Method> FACE = face();

    final String name;
    private final Method method;
    private final Object[] arguments;

    Call(String name, long... numbers) {
        this.name = name;
        method = FACE.get(name);
        if (method == null || method.getParameterCount() != numbers.length) {
            throw new IllegalStateException("the face has no call " + name + " of " + numbers.length);
        }
        arguments = new Object[numbers.length];
        for (int k = 0; k < numbers.length; k++) {
            boolean isLong = method.getParameterTypes()[k] == long.class;
            arguments[k] = isLong ? (Object) numbers[k] : (Object) Math.toIntExact(numbers[k]);
        }
    }

    static Call read(String written) {
        int open = written.indexOf('(');
        String inside = written.substring(open + 1, written.lastIndexOf(')')).strip();
        String[] texts = inside.isEmpty() ? new String[0] : inside.split("\\s*,\\s*");
        long[] numbers = new long[texts.length];
        for (int k = 0; k < texts.length; k++) {
            numbers[k] = Long.parseLong(texts[k]);
        }
        return new Call(written.substring(0, open).strip(), numbers);
    }

    private static Map<String, Method> face() {
        Map<String, Method> methods = new HashMap<>();
        for (Method m : AxleScale.class.getDeclaredMethods()) {
            if (java.lang.reflect.Modifier.isPublic(m.getModifiers())) {
                methods.put(m.getName(), m);
            }
        }
        return methods;
    }

    /** The answer, as a text: a number, or throws. and the exception's own name. */
    String on(AxleScale x) {
        try {
            return String.valueOf(method.invoke(x, arguments));
        } catch (InvocationTargetException e) {
            return "throws." + e.getCause().getClass().getSimpleName();
        } catch (IllegalAccessException e) {
            throw new IllegalStateException(e);
        }
    }

    @Override
    public String toString() {
        StringBuilder b = new StringBuilder(name).append('(');
        for (int k = 0; k < arguments.length; k++) {
            b.append(k == 0 ? "" : ", ").append(arguments[k]);
        }
        return b.append(')').toString();
    }
}
