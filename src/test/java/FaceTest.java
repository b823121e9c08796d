import java.lang.reflect.Constructor;
import java.lang.reflect.Field;
import java.lang.reflect.Method;
import java.lang.reflect.Modifier;
import java.util.HashSet;
import java.util.Set;
import java.util.TreeSet;

/** The public face as the document has it, and nothing beside it (rule 1 of LANGUAGE.md). */
final class FaceTest {
    private static final Due DUE = new Due();

    private static final String[] FACE = {
        "public boolean SpillingColours.accepts()",
        "public boolean SpillingColours.ended()",
        "public boolean SpillingColours.live(int,int)",
        "public boolean SpillingColours.spoil(int,int,int)",
        "public int SpillingColours.allocate(int) throws java.lang.IllegalArgumentException",
        "public int SpillingColours.clear()",
        "public int SpillingColours.joined()",
        "public int SpillingColours.line(int,int) throws java.lang.IndexOutOfBoundsException",
        "public int SpillingColours.lines()",
        "public int SpillingColours.put(int,int,int,int) throws java.lang.IllegalArgumentException,"
            + "java.lang.IllegalStateException",
        "public int SpillingColours.run(int) throws java.lang.IllegalArgumentException,"
            + "java.lang.IllegalStateException",
        "public int SpillingColours.shown(int) throws java.lang.IndexOutOfBoundsException",
        "public int SpillingColours.slots()",
    };

    public static void main(String[] args) {
        Class<?> face = SpillingColours.class;
        DUE.text("the class", Modifier.toString(face.getModifiers()), "public final");
        DUE.number("NONE", SpillingColours.NONE, -1);
        methods(face);
        fieldsAndConstructors(face);
        namesInside(face);
        DUE.finish();
    }

    private static void methods(Class<?> face) {
        Set<String> open = new TreeSet<>();
        for (Method method : face.getDeclaredMethods()) {
            if (!Modifier.isPrivate(method.getModifiers()) && !method.isSynthetic()) {
                open.add(method.toString());
            }
        }
        DUE.text("the methods", open.toString(), new TreeSet<>(Set.of(FACE)).toString());
    }

    private static void fieldsAndConstructors(Class<?> face) {
        for (Field field : face.getDeclaredFields()) {
            boolean isNone = field.getName().equals("NONE");
            String due = isNone ? "public static final" : "private";
            String got = Modifier.toString(field.getModifiers());
            DUE.truth("field " + field, isNone ? got.equals(due) : got.startsWith(due), true);
        }
        Constructor<?>[] made = face.getDeclaredConstructors();
        DUE.number("constructors", made.length, 1);
        DUE.text("the constructor", made[0].toString(), "public SpillingColours()");
    }

    private static void namesInside(Class<?> face) {
        Set<String> open = new HashSet<>();
        for (Method method : face.getMethods()) {
            open.add(method.getName());
        }
        for (Method method : face.getDeclaredMethods()) {
            boolean hidden = Modifier.isPrivate(method.getModifiers());
            DUE.truth(method + " has a public name", hidden && open.contains(method.getName()), false);
        }
        for (Class<?> inside : face.getDeclaredClasses()) {
            DUE.truth(inside + " is static", Modifier.isStatic(inside.getModifiers()), true);
            for (Method method : inside.getDeclaredMethods()) {
                DUE.truth(method + " has a public name", open.contains(method.getName()), false);
            }
        }
    }
}
