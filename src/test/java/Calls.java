import java.lang.reflect.Method;
import java.lang.reflect.Modifier;
import java.util.ArrayList;
import java.util.Comparator;
import java.util.List;
import java.util.Random;

/** The public calls of the class, to draw from. */
final class Calls {
    private Calls() {
    }

    /** By their names, as the machine tells them in no order that it promises. */
    static List<Method> all() {
        List<Method> methods = new ArrayList<>();
        for (Method method : HorologeBench.class.getDeclaredMethods()) {
            if (Modifier.isPublic(method.getModifiers())) {
                methods.add(method);
            }
        }
        methods.sort(Comparator.comparing(Method::getName));
        return methods;
    }

    static Method drawnOf(List<Method> methods, Random random, String... names) {
        String name = names[random.nextInt(names.length)];
        for (Method method : methods) {
            if (method.getName().equals(name)) {
                return method;
            }
        }
        throw new IllegalStateException(name);
    }
}
