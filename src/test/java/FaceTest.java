import java.lang.reflect.Constructor;
import java.lang.reflect.Field;
import java.lang.reflect.Method;
import java.lang.reflect.Modifier;
import java.util.Arrays;
import java.util.Set;
import java.util.TreeSet;

/** The public face of the document, and the rules of LANGUAGE.md that the compiled class shows. */
public final class FaceTest {
    private static final Set<String> FACE = Set.of(
        "set[int]", "term[int]", "period[]", "solutions[int, int]",
        "next[int, int]", "root[int, int]", "sum[int, int]");

    private static int wrong = 0;

    public static void main(String[] args) {
        Class<?> type = SquareDesk.class;
        due("public final", Modifier.isPublic(type.getModifiers()) && Modifier.isFinal(type.getModifiers()));
        due("no package", type.getPackageName().isEmpty());
        due("nothing above but Object", type.getSuperclass() == Object.class && type.getInterfaces().length == 0);
        due("no nested class", type.getDeclaredClasses().length == 0);
        constructors(type);
        methods(type);
        fields(type);
        System.out.println(wrong == 0 ? "the face is as due" : wrong + " things are not as due");
        if (wrong != 0) {
            System.exit(1);
        }
    }

    private static void due(String what, boolean holds) {
        if (!holds) {
            wrong++;
            System.out.println("does not hold: " + what);
        }
    }

    private static void constructors(Class<?> type) {
        Constructor<?>[] all = type.getDeclaredConstructors();
        due("one constructor, public, without parameters", all.length == 1
            && all[0].getParameterCount() == 0 && Modifier.isPublic(all[0].getModifiers()));
    }

    private static void methods(Class<?> type) {
        Set<String> found = new TreeSet<>();
        Set<String> publicNames = new TreeSet<>();
        for (Method method : type.getDeclaredMethods()) {
            if (Modifier.isPrivate(method.getModifiers())) {
                continue;
            }
            String name = method.getName() + Arrays.toString(method.getParameterTypes());
            found.add(name);
            publicNames.add(method.getName());
            due(name + " is public, of an object, and answers int", Modifier.isPublic(method.getModifiers())
                && !Modifier.isStatic(method.getModifiers()) && method.getReturnType() == int.class);
        }
        due("the methods are those of the document: " + found, found.equals(FACE));
        for (Method method : type.getDeclaredMethods()) {
            due(method + " bears no public name", !Modifier.isPrivate(method.getModifiers())
                || !publicNames.contains(method.getName()));
            due(method + " takes at most seven parameters", method.getParameterCount() <= 7);
        }
    }

    private static void fields(Class<?> type) {
        for (Field field : type.getDeclaredFields()) {
            due(field + " is private", Modifier.isPrivate(field.getModifiers()));
            if (Modifier.isStatic(field.getModifiers())) {
                due(field + " is a constant of int or long", Modifier.isFinal(field.getModifiers())
                    && (field.getType() == int.class || field.getType() == long.class));
            }
        }
    }
}
