import java.lang.reflect.Constructor;
import java.lang.reflect.Field;
import java.lang.reflect.Method;
import java.lang.reflect.Modifier;
import java.util.ArrayList;
import java.util.Collections;
import java.util.List;

/** The public face is the document's and nothing more. */
public final class FaceTest {
    private static final String[] FACE = {
        "char at(int, int) throws IndexOutOfBoundsException",
        "int badness(int) throws IndexOutOfBoundsException",
        "int lines()",
        "int page(int) throws IndexOutOfBoundsException",
        "int paragraph() throws IllegalArgumentException, IllegalStateException, UnsupportedOperationException",
        "int pattern() throws IllegalArgumentException, IllegalStateException",
        "int points() throws IllegalArgumentException",
        "int size(int) throws IndexOutOfBoundsException",
        "int type(char) throws IllegalArgumentException, IllegalStateException",
        "int x(int, int) throws IndexOutOfBoundsException",
        "long demerits()",
        "void clear()",
        "void set(int, int) throws IllegalArgumentException",
        "void width(char, int) throws IllegalArgumentException",
        "void wipe()",
    };

    public static void main(String[] args) {
        Class<?> face = GalleySetter.class;
        Checks.holds("public and final",
                Modifier.isPublic(face.getModifiers()) && Modifier.isFinal(face.getModifiers()));
        Constructor<?>[] constructors = face.getDeclaredConstructors();
        Checks.due("constructors", constructors.length, 1);
        Checks.holds("the constructor is public", Modifier.isPublic(constructors[0].getModifiers()));
        Checks.due("its parameters", constructors[0].getParameterCount(), 0);
        checkMethods(face);
        for (Field field : face.getDeclaredFields()) {
            Checks.holds("private field " + field.getName(), Modifier.isPrivate(field.getModifiers()));
            Checks.holds("static field is final " + field.getName(),
                    !Modifier.isStatic(field.getModifiers()) || Modifier.isFinal(field.getModifiers()));
        }
        for (Class<?> inside : face.getDeclaredClasses()) {
            Checks.holds("static class " + inside.getName(), Modifier.isStatic(inside.getModifiers()));
            Checks.holds("hidden class " + inside.getName(), !Modifier.isPublic(inside.getModifiers()));
        }
        Checks.end();
    }

    private static void checkMethods(Class<?> face) {
        List<String> shown = new ArrayList<>();
        List<String> names = new ArrayList<>();
        for (Method method : face.getDeclaredMethods()) {
            if (!Modifier.isPrivate(method.getModifiers()) && !method.isSynthetic()) {
                shown.add(describe(method));
                names.add(method.getName());
            }
        }
        Collections.sort(shown);
        Checks.due("the face", String.join("\n", shown), String.join("\n", FACE));
        for (Method method : face.getDeclaredMethods()) {
            Checks.holds("no private method bears the name of a public one: " + method.getName(),
                    !Modifier.isPrivate(method.getModifiers()) || !names.contains(method.getName()));
        }
    }

    private static String describe(Method method) {
        String parameters = names(method.getParameterTypes());
        String thrown = names(method.getExceptionTypes());
        return method.getReturnType().getSimpleName() + " " + method.getName() + "(" + parameters + ")"
                + (thrown.isEmpty() ? "" : " throws " + thrown);
    }

    private static String names(Class<?>[] types) {
        List<String> all = new ArrayList<>();
        for (Class<?> type : types) {
            all.add(type.getSimpleName());
        }
        return String.join(", ", all);
    }
}
