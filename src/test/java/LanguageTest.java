import java.lang.reflect.Field;
import java.lang.reflect.Method;
import java.lang.reflect.Modifier;
import java.util.ArrayList;
import java.util.List;
import java.util.Set;

/** Those rules of LANGUAGE.md that can be counted on the compiled classes; FaceTest has rule 1. */
final class LanguageTest {
    private static final int MOST_CLASSES = 12;
    private static final int MOST_FIELDS = 20;
    private static final int MOST_PARAMETERS = 7;

    private static final Due DUE = new Due();
    private static final Set<Class<?>> CONSTANTS =
        Set.of(int.class, long.class, boolean.class, char.class, String.class);

    public static void main(String[] args) {
        List<Class<?>> classes = new ArrayList<>(List.of(SpillingColours.class.getDeclaredClasses()));
        classes.add(SpillingColours.class);
        DUE.truth("rule 11: " + classes.size() + " classes", classes.size() <= MOST_CLASSES, true);
        for (Class<?> one : classes) {
            insideIsHiddenAndStatic(one);
            staticFieldsAreConstants(one);
            fieldsAreFew(one);
            parametersAreFew(one);
        }
        DUE.finish();
    }

    private static void insideIsHiddenAndStatic(Class<?> one) {
        if (one == SpillingColours.class) {
            return;
        }
        int modifiers = one.getModifiers();
        boolean isOpen = Modifier.isPublic(modifiers) || Modifier.isProtected(modifiers);
        DUE.truth("rule 1: " + one + " is open", isOpen, false);
        DUE.truth("rule 1: " + one + " is static", Modifier.isStatic(modifiers), true);
    }

    private static void staticFieldsAreConstants(Class<?> one) {
        for (Field field : one.getDeclaredFields()) {
            if (Modifier.isStatic(field.getModifiers())) {
                boolean holds = Modifier.isFinal(field.getModifiers()) && CONSTANTS.contains(field.getType());
                DUE.truth("rule 5: " + field + " is a constant", holds, true);
            }
        }
    }

    private static void fieldsAreFew(Class<?> one) {
        int count = 0;
        for (Field field : one.getDeclaredFields()) {
            count += Modifier.isStatic(field.getModifiers()) ? 0 : 1;
        }
        DUE.truth("rule 11: " + one + " has " + count + " fields", count <= MOST_FIELDS, true);
    }

    private static void parametersAreFew(Class<?> one) {
        for (Method method : one.getDeclaredMethods()) {
            int count = method.getParameterCount();
            DUE.truth("rule 11: " + method + " takes " + count, count <= MOST_PARAMETERS, true);
        }
    }
}
