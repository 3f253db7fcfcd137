import java.lang.reflect.Field;
import java.lang.reflect.Method;
import java.lang.reflect.Modifier;
import java.util.ArrayList;
import java.util.Arrays;
import java.util.Collections;
import java.util.HashSet;
import java.util.List;
import java.util.Set;
import java.util.TreeSet;

/** The public face of the class is the document's, and nothing else of it is to be seen (LANGUAGE.md, rule 1). */
public final class FaceTests {
    private static final String[] FACE = {
        "int book(int, int, boolean) IllegalArgumentException IllegalStateException",
        "int cancel(int) IndexOutOfBoundsException",
        "int place(int, int) IndexOutOfBoundsException IllegalStateException",
        "int rebook(int) IndexOutOfBoundsException IllegalStateException",
        "int cut(int, int) IndexOutOfBoundsException IllegalArgumentException IllegalStateException",
        "int set(int, int) IndexOutOfBoundsException IllegalArgumentException",
        "int append(int) IllegalArgumentException IllegalStateException",
        "int clearBuffer()",
        "int firstError()",
        "int bookAll() IllegalArgumentException",
        "int undo() IllegalStateException",
        "int holder(int, int) IndexOutOfBoundsException",
        "int passenger(int, int) IllegalArgumentException",
        "int count(int) IllegalArgumentException",
        "int free(int, int) IndexOutOfBoundsException IllegalArgumentException",
        "int goesTo(int) IndexOutOfBoundsException",
        "int setting(int) IndexOutOfBoundsException",
        "int ifBooked(int, int, boolean, int) IllegalArgumentException",
        "int whyNot(int, int) IllegalArgumentException",
        "int farthest(int) IllegalArgumentException",
        "double fullness()",
        "long digest()",
    };

    private static int wrong = 0;

    public static void main(String[] args) throws Exception {
        Class<?> face = SleeperBerths.class;
        check(Modifier.isPublic(face.getModifiers()) && Modifier.isFinal(face.getModifiers()), "the class is public and final");
        check(face.getDeclaredConstructors().length == 1 && face.getConstructors().length == 1, "one constructor, a public one");
        check(face.getConstructor().getExceptionTypes().length == 0, "the constructor throws nothing");
        checkFields(face);
        checkMethods(face);
        checkNested(face);
        System.out.println(wrong == 0 ? "the face is the document's" : wrong + " faults of the face");
        if (wrong != 0) {
            System.exit(1);
        }
    }

    private static void checkFields(Class<?> face) throws Exception {
        for (Field field : face.getDeclaredFields()) {
            boolean isNone = field.getName().equals("NONE");
            check(isNone || Modifier.isPrivate(field.getModifiers()), "private field " + field.getName());
            check(!Modifier.isStatic(field.getModifiers()) || Modifier.isFinal(field.getModifiers()), "final static " + field.getName());
        }
        Field none = face.getField("NONE");
        check(none.getType() == int.class && Modifier.isStatic(none.getModifiers()) && none.getInt(null) == -1, "NONE = -1");
    }

    private static void checkMethods(Class<?> face) {
        Set<String> seen = new TreeSet<>();
        for (Method method : face.getDeclaredMethods()) {
            if (Modifier.isPrivate(method.getModifiers())) {
                continue;
            }
            check(Modifier.isPublic(method.getModifiers()) && !Modifier.isStatic(method.getModifiers()), "public: " + method);
            seen.add(written(method));
        }
        check(seen.equals(new TreeSet<>(Arrays.asList(FACE))), "the methods are the document's, but are " + seen);
    }

    private static void checkNested(Class<?> face) {
        Set<String> publicNames = new HashSet<>();
        for (String line : FACE) {
            publicNames.add(line.substring(line.indexOf(' ') + 1, line.indexOf('(')));
        }
        List<Method> hidden = new ArrayList<>();
        for (Method method : face.getDeclaredMethods()) {
            if (Modifier.isPrivate(method.getModifiers())) {
                hidden.add(method);
            }
        }
        for (Class<?> nested : face.getDeclaredClasses()) {
            int modifiers = nested.getModifiers();
            check(Modifier.isStatic(modifiers) && !Modifier.isPublic(modifiers) && !Modifier.isProtected(modifiers), "hidden, static " + nested);
            Collections.addAll(hidden, nested.getDeclaredMethods());
        }
        for (Method method : hidden) {
            check(!publicNames.contains(method.getName()), "no hidden method bears a public name: " + method);
        }
    }

    private static String written(Method method) {
        List<String> parameters = new ArrayList<>();
        for (Class<?> parameter : method.getParameterTypes()) {
            parameters.add(parameter.getSimpleName());
        }
        StringBuilder line = new StringBuilder(method.getReturnType().getSimpleName());
        line.append(' ').append(method.getName()).append('(').append(String.join(", ", parameters)).append(')');
        for (Class<?> exception : method.getExceptionTypes()) {
            line.append(' ').append(exception.getSimpleName());
        }
        return line.toString();
    }

    private static void check(boolean holds, String what) {
        if (!holds) {
            wrong++;
            System.out.println("not so: " + what);
        }
    }
}
