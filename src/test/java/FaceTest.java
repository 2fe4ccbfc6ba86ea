import java.lang.reflect.Constructor;
import java.lang.reflect.Field;
import java.lang.reflect.Method;
import java.lang.reflect.Modifier;
import java.util.Arrays;
import java.util.Set;
import java.util.TreeSet;

/** The class has the document's face, and nothing else of it can be seen. */
public final class FaceTest {
    private static final Set<String> FACE = new TreeSet<>(Arrays.asList(
            "int type(char) IllegalArgumentException IllegalStateException",
            "void wipe()",
            "int read() IllegalArgumentException",
            "int reason()",
            "int place()",
            "int element(int,int) IndexOutOfBoundsException IllegalArgumentException",
            "char name(int,int) IndexOutOfBoundsException",
            "char content(int,int) IndexOutOfBoundsException",
            "char space(int,int) IndexOutOfBoundsException",
            "int form()",
            "char formAt(int) IndexOutOfBoundsException",
            "int retype() IllegalStateException",
            "void keep() IllegalStateException",
            "boolean same()"));

    public static void main(String[] args) {
        Class<MarkupReader> face = MarkupReader.class;
        Checks.due("the class's modifiers", Modifier.toString(face.getModifiers()), "public final");
        Checks.due("its methods", visibleMethods(face), FACE);
        Checks.due("how many constructors", face.getDeclaredConstructors().length, 1);
        for (Constructor<?> constructor : face.getDeclaredConstructors()) {
            Checks.due("the constructor", constructor.toString(), "public MarkupReader()");
        }
        for (Field field : face.getDeclaredFields()) {
            Checks.due(field + " is private", Modifier.isPrivate(field.getModifiers()), true);
            Checks.due(field + " is final if static", !Modifier.isStatic(field.getModifiers())
                    || Modifier.isFinal(field.getModifiers()), true);
        }
        for (Class<?> inside : face.getDeclaredClasses()) {
            Checks.due(inside + " is static", Modifier.isStatic(inside.getModifiers()), true);
            Checks.due(inside + " is public", Modifier.isPublic(inside.getModifiers()), false);
        }
        Checks.end();
    }

    private static Set<String> visibleMethods(Class<?> face) {
        Set<String> found = new TreeSet<>();
        for (Method method : face.getDeclaredMethods()) {
            if (!Modifier.isPrivate(method.getModifiers())) {
                found.add(described(method));
            }
        }
        return found;
    }

    private static String described(Method method) {
        StringBuilder text = new StringBuilder();
        text.append(method.getReturnType().getSimpleName()).append(' ').append(method.getName()).append('(');
        for (int i = 0; i < method.getParameterCount(); i++) {
            text.append(i == 0 ? "" : ",").append(method.getParameterTypes()[i].getSimpleName());
        }
        text.append(')');
        for (Class<?> thrown : method.getExceptionTypes()) {
            text.append(' ').append(thrown.getSimpleName());
        }
        return text.toString();
    }
}
