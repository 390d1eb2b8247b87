import java.lang.reflect.InvocationTargetException;
import java.lang.reflect.Method;
import java.util.Arrays;
import java.util.HashMap;
import java.util.Map;

/** A call of the face by its name, so that it can be made again on a fresh object. */
record Call(String name, int... args) {
    private static final Map<String, Method> FACE = new HashMap<>();

    static {
        for (Method method : CargoHeel.class.getMethods()) {
            if (method.getDeclaringClass() == CargoHeel.class) FACE.put(method.getName(), method);
        }
    }

    boolean isKnown() {
        Method method = FACE.get(name);
        return method != null && method.getParameterCount() == args.length;
    }

    /** What the call answers: a number (a boolean 1 or 0, nothing 0), or it throws what the call threw. */
    int on(CargoHeel x) {
        Object[] given = Arrays.stream(args).boxed().toArray();
        try {
            Object got = FACE.get(name).invoke(x, given);
            if (got instanceof Boolean) return (Boolean) got ? 1 : 0;
            return got == null ? 0 : (Integer) got;
        } catch (InvocationTargetException e) {
            if (e.getCause() instanceof RuntimeException thrown) throw thrown;
            throw new AssertionError(this + " ended with an error", e.getCause());
        } catch (IllegalAccessException e) {
            throw new AssertionError(this + " is not public", e);
        }
    }

    /** The same, with an exception as its name. */
    String told(CargoHeel x) {
        try {
            return Integer.toString(on(x));
        } catch (RuntimeException e) {
            return "throws." + e.getClass().getSimpleName();
        }
    }

    @Override
    public String toString() {
        String list = Arrays.toString(args);
        return name + "(" + list.substring(1, list.length() - 1) + ")";
    }
}
