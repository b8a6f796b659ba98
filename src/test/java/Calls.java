import java.lang.reflect.InvocationTargetException;
import java.lang.reflect.Method;
import java.lang.reflect.Modifier;
import java.util.ArrayList;
import java.util.List;
import java.util.TreeMap;

/** Calls the face's methods by their names, and tells all that an object can tell. */
final class Calls {
    private static final TreeMap<String, Method> FACE = new TreeMap<>();

    static {
        for (Method method : IronedQuarrels.class.getDeclaredMethods()) {
            if (Modifier.isPublic(method.getModifiers())) {
                FACE.put(method.getName(), method);
            }
        }
    }

    private Calls() {
    }

    static List<String> names() {
        return new ArrayList<>(FACE.keySet());
    }

    static int howManyArguments(String name) {
        return FACE.get(name).getParameterCount();
    }

    static long call(IronedQuarrels x, String name, int... arguments) {
        Object[] boxed = new Object[arguments.length];
        for (int k = 0; k < boxed.length; k++) {
            boxed[k] = arguments[k];
        }
        try {
            return ((Number) FACE.get(name).invoke(x, boxed)).longValue();
        } catch (InvocationTargetException thrown) {
            throw new IllegalStateException(told(name, arguments) + " threw", thrown.getCause());
        } catch (IllegalAccessException hidden) {
            throw new IllegalStateException(hidden);
        }
    }

    static String told(String name, int... arguments) {
        StringBuilder told = new StringBuilder(name).append('(');
        for (int k = 0; k < arguments.length; k++) {
            told.append(k == 0 ? "" : ", ").append(arguments[k]);
        }
        return told.append(')').toString();
    }

    /**
     * All that an object can tell but finding() and findings(), the DEEDS of the HEAP and of kept
     * HEAPS one by one, too: two objects that tell the same are in the same state. The object is of
     * no use behind it.
     */
    static List<String> allOf(IronedQuarrels x) {
        List<String> all = new ArrayList<>();
        all.add("asked() " + x.asked());
        all.add("upper() " + x.upper());
        all.add("lower() " + x.lower());
        deedByDeed(x, "the HEAP", all);
        for (int k = 0; k < 3; k++) {
            if (x.on(k) >= 0) {
                deedByDeed(x, "kept HEAP " + k, all);
            }
        }
        return all;
    }

    private static void deedByDeed(IronedQuarrels x, String which, List<String> all) {
        all.add(which + " " + x.digest());
        for (int deeds = x.count(2); deeds > 0; deeds--) {
            x.undo(deeds - 1);
            all.add(which + ", " + (deeds - 1) + " DEEDS " + x.digest());
        }
    }
}
