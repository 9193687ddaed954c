import java.lang.reflect.InvocationTargetException;
import java.lang.reflect.Method;
import java.util.HashMap;
import java.util.Map;

/** Calls by their names, so that OneBook and Model can be given the same ones. */
final class Face {
    private static final Map<String, Method> METHODS = new HashMap<>();

    private Face() {
    }

    static long call(Object on, String name, int... args) {
        Object[] boxed = new Object[args.length];
        for (int i = 0; i < args.length; i++) {
            boxed[i] = args[i];
        }
        try {
            return ((Number) method(on, name, args.length).invoke(on, boxed)).longValue();
        } catch (IllegalAccessException | InvocationTargetException e) {
            throw new IllegalStateException(name + " on " + on.getClass(), e);
        }
    }

    /** A text is typed; every other line is the name of a call and its arguments. */
    static void run(Object on, String line) {
        String[] words = line.trim().split(" +");
        if (words[0].equals("text")) {
            for (char c : words[1].toCharArray()) {
                call(on, "type", c);
            }
            return;
        }
        int[] args = new int[words.length - 1];
        for (int i = 0; i < args.length; i++) {
            args[i] = Integer.parseInt(words[i + 1]);
        }
        call(on, words[0], args);
    }

    private static Method method(Object on, String name, int count) {
        return METHODS.computeIfAbsent(on.getClass().getName() + " " + name, key -> {
            for (Method m : on.getClass().getDeclaredMethods()) {
                if (m.getName().equals(name) && m.getParameterCount() == count) {
                    return m;
                }
            }
            throw new IllegalStateException("no call " + name + " of " + count);
        });
    }
}
