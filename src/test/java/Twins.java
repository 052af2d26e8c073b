import java.lang.reflect.InvocationTargetException;
import java.lang.reflect.Method;
import java.util.HashMap;
import java.util.List;
import java.util.Map;

/** The class and the Model, called alike: every answer must be the same. */
final class Twins {
    private static final Map<String, Method> OURS = methods(ThrowArms.class);
    private static final Map<String, Method> THEIRS = methods(Model.class);

    final ThrowArms arms = new ThrowArms();
    final Model model = new Model();
    final StringBuilder log = new StringBuilder();

    private static Map<String, Method> methods(Class<?> of) {
        Map<String, Method> found = new HashMap<>();
        for (Method method : of.getMethods()) {
            found.put(method.getName(), method);
        }
        return found;
    }

    boolean call(String name, Object... numbers) {
        Object got = invoke(OURS.get(name), arms, numbers);
        Object due = invoke(THEIRS.get(name), model, numbers);
        log.append(name).append(List.of(numbers)).append(" = ").append(got);
        if (!got.equals(due)) {
            log.append(", due is ").append(due);
        }
        log.append('\n');
        return got.equals(due);
    }

    /** The call, and what it left in trouble() and where(). */
    boolean callAndTrouble(String name, Object... numbers) {
        return call(name, numbers) && call("trouble") && call("where");
    }

    private static Object invoke(Method method, Object on, Object[] numbers) {
        try {
            return method.invoke(on, numbers);
        } catch (InvocationTargetException thrown) {
            return "throws " + thrown.getCause().getClass().getName();
        } catch (IllegalAccessException hidden) {
            return "hidden " + method;
        }
    }

    boolean feed(String text) {
        boolean same = true;
        for (int i = 0; i < text.length() && same; i += 20) {
            Object[] five = new Object[5];
            for (int j = 0; j < 5; j++) {
                int four = 0;
                for (int k = i + 4 * j; k < i + 4 * j + 4; k++) {
                    four = four << 8 | (k < text.length() ? text.charAt(k) & 255 : ' ');
                }
                five[j] = four;
            }
            same = call("feed", five);
        }
        return same;
    }
}
