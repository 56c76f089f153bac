import java.lang.reflect.Field;
import java.lang.reflect.Method;
import java.lang.reflect.Modifier;
import java.util.HashSet;
import java.util.Set;

/** Those rules of LANGUAGE.md that can be seen on the compiled class. */
public final class LanguageTest {
    private static final Set<Class<?>> NUMBERS =
            Set.of(int.class, long.class, short.class, byte.class, char.class, boolean.class);

    public static void main(String[] args) {
        privateNamesDiffer();
        types();
        staticFields();
        sizes();
        Due.end();
    }

    private static void privateNamesDiffer() {
        Due.by("Rule 1", "No private method bears the name of a public one.");
        Set<String> visible = new HashSet<>();
        for (Method m : CausalCheck.class.getDeclaredMethods()) {
            if (Modifier.isPublic(m.getModifiers())) {
                visible.add(m.getName());
            }
        }
        for (Method m : CausalCheck.class.getDeclaredMethods()) {
            boolean isShared = Modifier.isPrivate(m.getModifiers()) && visible.contains(m.getName());
            Due.is("private methods named " + m.getName(), isShared ? 1 : 0, 0);
        }
    }

    private static void types() {
        Due.by("Rule 2", "Types: int, long, short, byte, char, boolean, and one-dimensional arrays of these.");
        for (Field f : CausalCheck.class.getDeclaredFields()) {
            Due.is(f + " of such a type", isAllowed(f.getType()) ? 1 : 0, 1);
        }
        for (Method m : CausalCheck.class.getDeclaredMethods()) {
            Class<?> answer = m.getReturnType();
            Due.is(m + " with such an answer", answer == void.class || NUMBERS.contains(answer) ? 1 : 0, 1);
            for (Class<?> parameter : m.getParameterTypes()) {
                Due.is(m + " with such parameters", isAllowed(parameter) ? 1 : 0, 1);
            }
        }
    }

    private static boolean isAllowed(Class<?> type) {
        return NUMBERS.contains(type) || type.isArray() && NUMBERS.contains(type.getComponentType());
    }

    private static void staticFields() {
        Due.by("Rule 5", "Static fields are compile-time constants of int or long alone.");
        for (Field f : CausalCheck.class.getDeclaredFields()) {
            if (Modifier.isStatic(f.getModifiers())) {
                boolean isConstant = Modifier.isFinal(f.getModifiers())
                        && (f.getType() == int.class || f.getType() == long.class);
                Due.is(f + " a constant", isConstant ? 1 : 0, 1);
            }
        }
    }

    private static void sizes() {
        Due.by("Rule 10", "at most seven parameters [..] at most some forty fields beside its constants");
        for (Method m : CausalCheck.class.getDeclaredMethods()) {
            Due.is(m + " with too many parameters", m.getParameterCount() > 7 ? 1 : 0, 0);
        }
        int fields = 0;
        for (Field f : CausalCheck.class.getDeclaredFields()) {
            fields += Modifier.isStatic(f.getModifiers()) ? 0 : 1;
        }
        Due.is("more than forty fields", fields > 40 ? 1 : 0, 0);
    }
}
