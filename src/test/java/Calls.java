import java.lang.reflect.Method;
import java.lang.reflect.Modifier;
import java.util.Map;
import java.util.TreeMap;

/** Calls by their names, and what several tests tell an object. */
final class Calls {
    private static final Map<String, Method> METHODS = new TreeMap<>();

    static {
        for (Method method : AccessLattice.class.getDeclaredMethods()) {
            if (Modifier.isPublic(method.getModifiers())) {
                METHODS.put(method.getName(), method);
            }
        }
    }

    private Calls() {
    }

    static Iterable<String> names() {
        return METHODS.keySet();
    }

    static int call(AccessLattice x, String name, int... args) {
        Object[] boxed = new Object[args.length];
        for (int i = 0; i < args.length; i++) {
            boxed[i] = args[i];
        }
        try {
            return (Integer) METHODS.get(name).invoke(x, boxed);
        } catch (ReflectiveOperationException problem) {
            throw new IllegalStateException(name, problem);
        }
    }

    /** Texts like "may 1 2 3". */
    static int call(AccessLattice x, String text) {
        String[] words = text.split(" ");
        int[] args = new int[words.length - 1];
        for (int i = 0; i < args.length; i++) {
            args[i] = Integer.parseInt(words[i + 1]);
        }
        return call(x, words[0], args);
    }

    static void feed(AccessLattice x, String text) {
        for (int i = 0; i < text.length(); i++) {
            x.feed(text.charAt(i));
        }
    }

    static int pairs(AccessLattice x, String text) {
        feed(x, text);
        return x.seniors();
    }

    /** A GRANT of ACT 0 on THING 0 to ROLE 0 with a CONDITION. */
    static int condition(AccessLattice x, String text) {
        feed(x, text);
        return x.rule(0, 1, 0, 0, -1);
    }
}
