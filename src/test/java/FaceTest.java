import java.lang.reflect.Constructor;
import java.lang.reflect.Field;
import java.lang.reflect.Member;
import java.lang.reflect.Method;
import java.lang.reflect.Modifier;
import java.util.Arrays;
import java.util.List;
import java.util.TreeSet;
import java.util.stream.Collectors;

/** The public face as the document writes it, and what rule 1 of the language asks of the rest. */
public final class FaceTest {
    private static final String[] METHODS = {
        "int shape() throws IllegalStateException",
        "boolean point(int, long, long) throws IndexOutOfBoundsException, IllegalStateException, IllegalArgumentException",
        "int corners(int) throws IndexOutOfBoundsException",
        "long corner(int, int, int) throws IndexOutOfBoundsException",
        "boolean apart(int, int) throws IndexOutOfBoundsException",
        "int box(long, long, long, long) throws IllegalStateException, IllegalArgumentException",
        "boolean move(int, long, long) throws IndexOutOfBoundsException, IllegalArgumentException",
        "long touch(int, int, int) throws IndexOutOfBoundsException",
        "long overlap(int, int, int) throws IndexOutOfBoundsException",
        "boolean tile(int, int, boolean) throws IndexOutOfBoundsException, IllegalStateException",
        "boolean player(long, long, long, long) throws IllegalArgumentException",
        "int step(long, long, int) throws IllegalArgumentException",
        "long at(int) throws IndexOutOfBoundsException",
        "long sweep(int, int) throws IndexOutOfBoundsException",
        "void clear()",
    };

    public static void main(String[] args) {
        Due due = new Due();
        Class<?> face = SweptBoxes.class;
        due.answer("modifiers of the class", Modifier.PUBLIC | Modifier.FINAL, face::getModifiers);
        due.answer("NONE", -1, () -> SweptBoxes.NONE);
        due.answer("public fields", 1, () -> face.getFields().length);
        due.answer("constructors", 1, () -> face.getDeclaredConstructors().length);
        Constructor<?> made = face.getDeclaredConstructors()[0];
        due.yes("the constructor is public, without parameters", () ->
                Modifier.isPublic(made.getModifiers()) && made.getParameterCount() == 0);

        TreeSet<String> shown = new TreeSet<>();
        TreeSet<String> hidden = new TreeSet<>();
        TreeSet<String> names = new TreeSet<>();
        for (Method m : face.getDeclaredMethods()) {
            if (Modifier.isPrivate(m.getModifiers())) {
                hidden.add(m.getName());
            } else {
                shown.add(told(m));
                names.add(m.getName());
            }
        }
        due.answer("the methods of the face: " + shown, 1, () ->
                shown.equals(new TreeSet<>(List.of(METHODS))) ? 1 : 0);
        hidden.retainAll(names);
        due.answer("private methods with a public one's name: " + hidden, 0, hidden::size);
        for (Field f : face.getDeclaredFields()) {
            due.yes("hidden or NONE: " + f, () -> isHidden(f) || f.getName().equals("NONE"));
            due.yes("static is final: " + f, () -> !Modifier.isStatic(f.getModifiers())
                    || Modifier.isFinal(f.getModifiers()));
        }
        for (Class<?> inside : face.getDeclaredClasses()) {
            due.yes("static and not public: " + inside, () -> Modifier.isStatic(inside.getModifiers())
                    && !Modifier.isPublic(inside.getModifiers())
                    && !Modifier.isProtected(inside.getModifiers()));
        }
        due.end();
    }

    private static boolean isHidden(Member m) {
        return Modifier.isPrivate(m.getModifiers());
    }

    private static String told(Method m) {
        String thrown = types(m.getExceptionTypes());
        return m.getReturnType().getSimpleName() + " " + m.getName() + "("
                + types(m.getParameterTypes()) + ")" + (thrown.isEmpty() ? "" : " throws " + thrown);
    }

    private static String types(Class<?>[] types) {
        return Arrays.stream(types).map(Class::getSimpleName).collect(Collectors.joining(", "));
    }
}
