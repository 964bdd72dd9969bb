import java.lang.reflect.Constructor;
import java.lang.reflect.Field;
import java.lang.reflect.Method;
import java.lang.reflect.Modifier;
import java.util.Arrays;
import java.util.List;
import java.util.NoSuchElementException;
import java.util.Set;
import java.util.TreeSet;

/** The class has the document's face and nothing beside it that others could see. */
public final class FaceTest {
    private static final Checks CHECKS = new Checks();
    private static final Set<String> METHODS = new TreeSet<>(Arrays.asList("boolean board 1", "int make 1",
            "boolean isLegal 5", "int moves 5", "int distance 5", "int best 5", "int move 2", "int line 5", "int ply 2",
            "int number 5", "int position 3", "int count 3", "int longest 3", "int feed 5", "int read 1", "int show 5",
            "int out 1"));
    private static final Set<String> THROWING = new TreeSet<>(Arrays.asList("distance", "best", "line", "number",
            "position", "count", "longest"));

    public static void main(String[] args) {
        CHECKS.yes("public and final", Modifier.isPublic(EndgameHouse.class.getModifiers())
                && Modifier.isFinal(EndgameHouse.class.getModifiers()));
        methods();
        constructorsAndFields();
        for (Class<?> inside : EndgameHouse.class.getDeclaredClasses()) {
            CHECKS.yes(inside + " is static and not public", Modifier.isStatic(inside.getModifiers())
                    && !Modifier.isPublic(inside.getModifiers()) && !Modifier.isProtected(inside.getModifiers()));
        }
        CHECKS.same("NONE", EndgameHouse.NONE, -1);
        CHECKS.end();
    }

    private static void methods() {
        Set<String> seen = new TreeSet<>();
        Set<String> names = new TreeSet<>();
        for (Method method : EndgameHouse.class.getDeclaredMethods()) {
            if (Modifier.isPublic(method.getModifiers())) {
                seen.add(method.getReturnType() + " " + method.getName() + " " + method.getParameterCount());
                names.add(method.getName());
                parametersAndExceptions(method);
            }
        }
        for (Method method : EndgameHouse.class.getDeclaredMethods()) {
            boolean hidden = Modifier.isPrivate(method.getModifiers()) && !names.contains(method.getName());
            CHECKS.yes(method + " is of the face, or private with another name",
                    Modifier.isPublic(method.getModifiers()) || hidden);
        }
        CHECKS.yes("public methods are " + seen, seen.equals(METHODS));
    }

    private static void parametersAndExceptions(Method method) {
        for (Class<?> type : method.getParameterTypes()) {
            CHECKS.yes(method + " takes numbers", type == int.class);
        }
        List<Class<?>> due = THROWING.contains(method.getName()) ? List.of(NoSuchElementException.class) : List.of();
        CHECKS.yes(method + " says what it throws", Arrays.asList(method.getExceptionTypes()).equals(due));
    }

    private static void constructorsAndFields() {
        Constructor<?>[] constructors = EndgameHouse.class.getDeclaredConstructors();
        CHECKS.same("constructors", constructors.length, 1);
        CHECKS.yes("a public one without parameters", Modifier.isPublic(constructors[0].getModifiers())
                && constructors[0].getParameterCount() == 0);
        for (Field field : EndgameHouse.class.getDeclaredFields()) {
            boolean none = field.getName().equals("NONE") && Modifier.isPublic(field.getModifiers());
            CHECKS.yes(field + " is NONE or private", none || Modifier.isPrivate(field.getModifiers()));
            CHECKS.yes(field + " is final, if it is static", !Modifier.isStatic(field.getModifiers())
                    || Modifier.isFinal(field.getModifiers()));
        }
    }
}
