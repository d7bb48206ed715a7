import java.lang.reflect.InvocationTargetException;
import java.lang.reflect.Method;
import java.util.HashMap;
import java.util.Map;

/** One object in use: its calls are told by name, and counted. */
final class Play {
    /** What later calls answer is free. */
    static final int MOST_CALLS = 512;

    private static final Map<String, Method> METHODS = new HashMap<>();

    static {
        for (Method method : RowFirst.class.getDeclaredMethods()) {
            METHODS.put(method.getName(), method);
        }
    }

    private final RowFirst x = new RowFirst();
    private int calls;

    static int parameters(String name) {
        Method method = METHODS.get(name);
        if (method == null) {
            throw new IllegalArgumentException("no such call: " + name);
        }
        return method.getParameterCount();
    }

    int calls() {
        return calls;
    }

    boolean mayAsk() {
        return calls < MOST_CALLS;
    }

    long ask(String name, int... told) {
        if (parameters(name) != told.length) {
            throw new IllegalArgumentException(name + " takes " + parameters(name) + ", not " + told.length);
        }
        Object[] values = new Object[told.length];
        for (int i = 0; i < told.length; i++) {
            values[i] = told[i];
        }
        calls++;
        try {
            return ((Number) METHODS.get(name).invoke(x, values)).longValue();
        } catch (IllegalAccessException | InvocationTargetException e) {
            throw new IllegalStateException(name + " threw", e.getCause());
        }
    }
}
