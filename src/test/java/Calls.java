import java.lang.reflect.InvocationTargetException;
import java.lang.reflect.Method;
import java.lang.reflect.Modifier;
import java.util.Arrays;
import java.util.Map;
import java.util.TreeMap;

/** The calls of the class by their names, so that a test can tell a call, make it, and go over all of them. */
final class Calls {
    private static final Map<String, Method> NAMED = named();

    private Calls() {
    }

    private static Map<String, Method> named() {
        Map<String, Method> named = new TreeMap<>();
        for (Method m : PaperedOver.class.getDeclaredMethods()) {
            if (Modifier.isPublic(m.getModifiers())) named.put(m.getName(), m);
        }
        return named;
    }

    static Iterable<String> names() {
        return NAMED.keySet();
    }

    static int arguments(String name) {
        return NAMED.get(name).getParameterCount();
    }

    static String text(String name, long... args) {
        return name + Arrays.toString(args).replace('[', '(').replace(']', ')');
    }

    /** A call written in one line: its name and its numbers, with blanks between. */
    static int told(PaperedOver x, String line) {
        String[] words = line.split(" ");
        long[] args = new long[words.length - 1];
        for (int i = 0; i < args.length; i++) args[i] = Long.parseLong(words[i + 1]);
        return of(x, words[0], args);
    }

    static int of(PaperedOver x, String name, long... args) {
        Method m = NAMED.get(name);
        Object[] told = new Object[args.length];
        for (int i = 0; i < args.length; i++) {
            told[i] = m.getParameterTypes()[i] == long.class ? (Object) args[i] : (Object) Math.toIntExact(args[i]);
        }
        try {
            return (int) m.invoke(x, told);
        } catch (InvocationTargetException | IllegalAccessException e) {
            throw new IllegalStateException(text(name, args), e);
        }
    }
}
