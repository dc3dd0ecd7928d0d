import java.lang.reflect.Constructor;
import java.lang.reflect.Field;
import java.lang.reflect.Method;
import java.lang.reflect.Modifier;
import java.util.Set;
import java.util.TreeSet;

/** The public face: what the document lists, and no more. */
public final class FaceTest {
    private static final Check CHECK = new Check("FaceTest");

    public static void main(String[] args) {
        CHECK.due("the class", Modifier.toString(TermRules.class.getModifiers()), "public final");
        Set<String> methods = new TreeSet<>();
        Set<String> open = new TreeSet<>();
        for (Method method : TermRules.class.getDeclaredMethods()) {
            StringBuilder text = new StringBuilder(method.getReturnType() + " " + method.getName());
            for (Class<?> type : method.getParameterTypes()) {
                text.append(' ').append(type);
            }
            if (!Modifier.isPrivate(method.getModifiers()) && !method.isSynthetic()) {
                methods.add(text.toString());
                open.add(method.getName());
            }
        }
        Set<String> due = new TreeSet<>(Set.of("int feed int int int int int", "int rules int", "int place",
                "int symbols", "int parts int", "int order int", "int reduce int", "int same int"));
        due.addAll(Set.of("int meetings", "int meeting int int", "int closes int", "int isSure",
                "int write int int boolean", "int result", "int written int"));
        CHECK.due("the methods", methods.toString(), due.toString());
        fields();
        constructors();
        inside(open);
        CHECK.finish();
    }

    private static void fields() {
        Set<String> fields = new TreeSet<>();
        for (Field field : TermRules.class.getDeclaredFields()) {
            if (!Modifier.isPrivate(field.getModifiers())) {
                fields.add(Modifier.toString(field.getModifiers()) + " " + field.getType() + " " + field.getName());
            } else if (Modifier.isStatic(field.getModifiers())) {
                CHECK.due("a static field is final", Modifier.isFinal(field.getModifiers()) ? 1 : 0, 1);
            }
        }
        CHECK.due("the constants", fields.toString(), "[public static final int NONE]");
    }

    private static void constructors() {
        for (Constructor<?> constructor : TermRules.class.getDeclaredConstructors()) {
            CHECK.due("a constructor", constructor.toString(), "public TermRules()");
        }
    }

    private static void inside(Set<String> open) {
        CHECK.due("some twelve classes", TermRules.class.getDeclaredClasses().length <= 12 ? 1 : 0, 1);
        for (Class<?> inside : TermRules.class.getDeclaredClasses()) {
            int modifiers = inside.getModifiers();
            boolean isGood = Modifier.isStatic(modifiers)
                    && !Modifier.isPublic(modifiers) && !Modifier.isProtected(modifiers);
            CHECK.due("the class " + inside.getSimpleName(), isGood ? 1 : 0, 1);
            CHECK.due("its fields", inside.getDeclaredFields().length <= 24 ? 1 : 0, 1);
            for (Method method : inside.getDeclaredMethods()) {
                CHECK.due("a name of the face: " + method.getName(), open.contains(method.getName()) ? 1 : 0, 0);
                CHECK.due("parameters of " + method.getName(), method.getParameterCount() <= 7 ? 1 : 0, 1);
            }
        }
    }
}
