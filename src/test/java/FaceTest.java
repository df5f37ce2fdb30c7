import java.lang.reflect.Constructor;
import java.lang.reflect.Field;
import java.lang.reflect.Method;
import java.lang.reflect.Modifier;
import java.util.Set;
import java.util.TreeSet;

/** The class shows every member of the document's public face, and no other. */
public final class FaceTest {
    private static final Set<String> FACE = Set.of(
        "int put(int, int)", "int sow(int, int, int)", "int measure(int, int)", "int drop(int)",
        "int prepare(int)", "int facts()", "int cellOf(int, int)", "int full(int)",
        "int count(int, int)", "int sum(int, int)", "int least(int, int)", "int most(int, int)",
        "int next(int, int)", "int best(int)", "int having(int, int)", "int finer(int, int)",
        "int viewsWith(int)");

    private static int wrong = 0;

    public static void main(String[] args) {
        Class<?> face = OlapCubes.class;
        due("the class is public and final", face.getModifiers() == (Modifier.PUBLIC | Modifier.FINAL));
        due("the class extends nothing", face.getSuperclass() == Object.class && face.getInterfaces().length == 0);
        due("no nested class", face.getDeclaredClasses().length == 0);

        Constructor<?>[] constructors = face.getDeclaredConstructors();
        due("one public constructor without parameters", constructors.length == 1
            && constructors[0].getModifiers() == Modifier.PUBLIC && constructors[0].getParameterCount() == 0);

        Set<String> seen = new TreeSet<>();
        for (Method method : face.getDeclaredMethods()) {
            if (method.getModifiers() == Modifier.PUBLIC) {
                seen.add(text(method));
            } else {
                due("private: " + method, Modifier.isPrivate(method.getModifiers()));
            }
        }
        due("the methods are " + new TreeSet<>(FACE) + ", not " + seen, seen.equals(FACE));
        for (Field field : face.getDeclaredFields()) {
            due("private: " + field, Modifier.isPrivate(field.getModifiers()));
        }

        System.out.println(wrong == 0 ? "the face is as due" : wrong + " faults in the face");
        if (wrong != 0) {
            System.exit(1);
        }
    }

    private static String text(Method method) {
        StringBuilder types = new StringBuilder();
        for (Class<?> type : method.getParameterTypes()) {
            types.append(types.length() == 0 ? "" : ", ").append(type.getName());
        }
        return method.getReturnType().getName() + " " + method.getName() + "(" + types + ")";
    }

    private static void due(String what, boolean holds) {
        if (!holds) {
            wrong++;
            System.out.println("not so: " + what);
        }
    }
}
