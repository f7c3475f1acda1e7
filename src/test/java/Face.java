import java.lang.reflect.Method;
import java.lang.reflect.Modifier;
import java.util.ArrayList;
import java.util.Comparator;
import java.util.List;

/** The calls of the class, in an order that is always the same. */
final class Face {
    private static final Method[] METHODS = find();

    private static Method[] find() {
        List<Method> found = new ArrayList<>();
        for (Method m : BackBay.class.getDeclaredMethods()) {
            if (Modifier.isPublic(m.getModifiers())) {
                found.add(m);
            }
        }
        found.sort(Comparator.comparing(Method::getName));
        return found.toArray(new Method[0]);
    }

    static Method[] methods() {
        return METHODS;
    }

    static Method method(String name) {
        for (Method m : METHODS) {
            if (m.getName().equals(name)) {
                return m;
            }
        }
        throw new IllegalArgumentException("no call " + name);
    }
}
