import java.lang.reflect.Constructor;
import java.lang.reflect.Field;
import java.lang.reflect.Method;
import java.lang.reflect.Modifier;
import java.util.ArrayList;
import java.util.List;
import java.util.Set;
import java.util.TreeSet;

/** The class has the document's face, and nothing else that can be seen from outside. */
public final class FaceTests {
    private static final List<String> FACE = List.of(
        "int add(int) throws IndexOutOfBoundsException IllegalStateException",
        "int drop(int) throws IndexOutOfBoundsException",
        "int kind(int) throws IndexOutOfBoundsException",
        "int rule() throws IllegalStateException",
        "boolean setNeeds(int int boolean) throws IndexOutOfBoundsException IllegalStateException",
        "boolean setSpares(int int boolean) throws IndexOutOfBoundsException IllegalStateException",
        "int told(int int) throws IndexOutOfBoundsException",
        "boolean spoils(int) throws IllegalArgumentException",
        "int shrink()",
        "int kept(int) throws IndexOutOfBoundsException",
        "int step(int int) throws IndexOutOfBoundsException",
        "int count(int) throws IndexOutOfBoundsException",
        "int would(int) throws IndexOutOfBoundsException",
        "int least()",
        "boolean isTight(int) throws IllegalArgumentException",
        "int advise()",
        "double mean()",
        "long digest()");

    private FaceTests() {
    }

    public static void main(String[] args) {
        Class<?> type = FaultShrinker.class;
        Check.yes("the class is public and final", Modifier.isPublic(type.getModifiers()) && Modifier.isFinal(type.getModifiers()));
        methods(type);
        constructors(type);
        fields(type);
        for (Class<?> inside : type.getDeclaredClasses()) {
            Check.yes(inside.getName() + " is static", Modifier.isStatic(inside.getModifiers()));
            Check.no(inside.getName() + " is public", Modifier.isPublic(inside.getModifiers()));
            fields(inside);
            noNameOfTheFace(inside);
        }
        Check.end("FaceTests");
    }

    private static String written(Method method) {
        StringBuilder text = new StringBuilder();
        text.append(method.getReturnType().getSimpleName()).append(' ').append(method.getName());
        text.append('(').append(names(method.getParameterTypes())).append(')');
        if (method.getExceptionTypes().length > 0) {
            text.append(" throws ").append(names(method.getExceptionTypes()));
        }
        return text.toString();
    }

    private static String names(Class<?>[] types) {
        List<String> names = new ArrayList<>();
        for (Class<?> type : types) {
            names.add(type.getSimpleName());
        }
        return String.join(" ", names);
    }

    private static Set<String> faceNames() {
        Set<String> names = new TreeSet<>();
        for (Method method : FaultShrinker.class.getDeclaredMethods()) {
            if (Modifier.isPublic(method.getModifiers())) {
                names.add(method.getName());
            }
        }
        return names;
    }

    private static void methods(Class<?> type) {
        Set<String> seen = new TreeSet<>();
        for (Method method : type.getDeclaredMethods()) {
            int modifiers = method.getModifiers();
            if (Modifier.isPublic(modifiers)) {
                Check.no(method + " is static", Modifier.isStatic(modifiers));
                seen.add(written(method));
            } else {
                Check.yes(method + " is private", Modifier.isPrivate(modifiers));
                Check.no(method + " bears the name of a public one", faceNames().contains(method.getName()));
            }
        }
        Check.same("the methods", seen.toString(), new TreeSet<>(FACE).toString());
    }

    private static void noNameOfTheFace(Class<?> inside) {
        for (Method method : inside.getDeclaredMethods()) {
            Check.no(method + " bears the name of a public one", faceNames().contains(method.getName()));
        }
    }

    private static void constructors(Class<?> type) {
        Check.same("constructors", type.getDeclaredConstructors().length, 1);
        for (Constructor<?> constructor : type.getDeclaredConstructors()) {
            Check.yes("the constructor is public", Modifier.isPublic(constructor.getModifiers()));
            Check.same("its parameters", constructor.getParameterCount(), 0);
            Check.same("what it throws", constructor.getExceptionTypes().length, 0);
        }
    }

    private static void fields(Class<?> type) {
        for (Field field : type.getDeclaredFields()) {
            Check.yes(field + " is private", Modifier.isPrivate(field.getModifiers()));
            if (Modifier.isStatic(field.getModifiers())) {
                Check.yes(field + " is final", Modifier.isFinal(field.getModifiers()));
            }
        }
    }
}
