import java.lang.reflect.Constructor;
import java.lang.reflect.Field;
import java.lang.reflect.Method;
import java.lang.reflect.Modifier;
import java.util.Set;
import java.util.TreeSet;

/**
 * The class shows every member of the document's public face, and no other; and
 * its members keep to those rules of the language that can be seen from them.
 */
public final class FaceTest {
    private static final Set<String> FACE = Set.of(
        "int put(int, int)", "int sow(int, int, int)", "int measure(int, int)", "int drop(int)",
        "int prepare(int)", "int facts()", "int cellOf(int, int)", "int full(int)",
        "int count(int, int)", "int sum(int, int)", "int least(int, int)", "int most(int, int)",
        "int next(int, int)", "int best(int)", "int having(int, int)", "int finer(int, int)",
        "int viewsWith(int)");
    private static final Set<Class<?>> NUMBERS = Set.of(
        int.class, long.class, short.class, byte.class, char.class, boolean.class);

    private static int wrong = 0;

    public static void main(String[] args) {
        Class<?> face = OlapCubes.class;
        due("the class is public and final", face.getModifiers() == (Modifier.PUBLIC | Modifier.FINAL));
        due("the class extends nothing", face.getSuperclass() == Object.class && face.getInterfaces().length == 0);
        due("no nested class", face.getDeclaredClasses().length == 0);

        Constructor<?>[] constructors = face.getDeclaredConstructors();
        due("one public constructor without parameters", constructors.length == 1
            && constructors[0].getModifiers() == Modifier.PUBLIC && constructors[0].getParameterCount() == 0);

        Set<String> seen = new TreeSet<>();
        for (Method method : face.getDeclaredMethods()) {
            if (method.getModifiers() == Modifier.PUBLIC) {
                seen.add(text(method));
            } else {
                due("private: " + method, Modifier.isPrivate(method.getModifiers()));
            }
        }
        due("the methods are " + new TreeSet<>(FACE) + ", not " + seen, seen.equals(FACE));
        for (Field field : face.getDeclaredFields()) {
            due("private: " + field, Modifier.isPrivate(field.getModifiers()));
        }
        methodsKeepToTheLanguage(face);
        fieldsKeepToTheLanguage(face);

        System.out.println(wrong == 0 ? "the face is as due" : wrong + " faults in the face");
        if (wrong != 0) {
            System.exit(1);
        }
    }

    private static void methodsKeepToTheLanguage(Class<?> face) {
        for (Method method : face.getDeclaredMethods()) {
            due("at most seven parameters: " + method, method.getParameterCount() <= 7);
            due("a number or nothing answered: " + method,
                method.getReturnType() == void.class || NUMBERS.contains(method.getReturnType()));
            for (Class<?> type : method.getParameterTypes()) {
                due("a number or a row of numbers: " + method, isNumberOrRow(type));
            }
            for (Method other : face.getDeclaredMethods()) {
                due("not private with a public one's name: " + method, !Modifier.isPrivate(method.getModifiers())
                    || !Modifier.isPublic(other.getModifiers()) || !method.getName().equals(other.getName()));
            }
        }
    }

    private static void fieldsKeepToTheLanguage(Class<?> face) {
        int held = 0;
        for (Field field : face.getDeclaredFields()) {
            due("a number or a row of numbers: " + field, isNumberOrRow(field.getType()));
            if (Modifier.isStatic(field.getModifiers())) {
                due("a constant of int or long: " + field, Modifier.isFinal(field.getModifiers())
                    && (field.getType() == int.class || field.getType() == long.class));
            } else {
                held++;
            }
        }
        due("at most forty fields beside the constants, not " + held, held <= 40);
    }

    private static boolean isNumberOrRow(Class<?> type) {
        return NUMBERS.contains(type.isArray() ? type.getComponentType() : type);
    }

    private static String text(Method method) {
        StringBuilder types = new StringBuilder();
        for (Class<?> type : method.getParameterTypes()) {
            types.append(types.length() == 0 ? "" : ", ").append(type.getName());
        }
        return method.getReturnType().getName() + " " + method.getName() + "(" + types + ")";
    }

    private static void due(String what, boolean holds) {
        if (!holds) {
            wrong++;
            System.out.println("not so: " + what);
        }
    }
}
