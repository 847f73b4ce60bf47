import java.lang.reflect.Constructor;
import java.lang.reflect.Field;
import java.lang.reflect.Method;
import java.lang.reflect.Modifier;
import java.util.Arrays;
import java.util.Set;
import java.util.TreeSet;

/** The public face is the document's, and nothing else can be seen. */
public final class FaceTest {
    private static final Due due = new Due();

    private static final String FACE = "int pattern 4, int throwOf 1, int clash 0, int good 1, int state 1, "
        + "int ball 1, int orbit 1, int hands 1, int beat 2, int swap 2, int turn 1, int backward 0, "
        + "int greatest 1, int keep 1, int back 1, int like 1, long howMany 3, int way 4, long filled 6, "
        + "int kind 2, int broken 0, int drop 1, int empty 1, int sheet 3, int lose 1, int put 3, "
        + "long cell 3, int copy 5, int tell 1, int call 1, int as 2, int trace 0, int fault 0, int many 1";

    public static void main(String[] args) throws ReflectiveOperationException {
        due.holds("public and final", Modifier.isPublic(ThrowRows.class.getModifiers())
                && Modifier.isFinal(ThrowRows.class.getModifiers()));
        methods();
        constants();
        constructor();
        due.end();
    }

    private static void methods() {
        Set<String> found = new TreeSet<>();
        Set<String> hidden = new TreeSet<>();
        for (Method method : ThrowRows.class.getDeclaredMethods()) {
            if (Modifier.isPrivate(method.getModifiers())) {
                hidden.add(method.getName());
            } else {
                found.add(method.getReturnType() + " " + method.getName() + " " + method.getParameterCount());
                due.holds(method + " is public, of the object",
                        Modifier.isPublic(method.getModifiers()) && !Modifier.isStatic(method.getModifiers()));
                due.holds(method + " takes ints",
                        Arrays.stream(method.getParameterTypes()).allMatch(type -> type == int.class));
            }
        }
        Set<String> wanted = new TreeSet<>(Arrays.asList(FACE.split(", ")));
        due.holds("methods: " + found, found.equals(wanted));
        for (String face : wanted) {
            due.holds("private and public: " + face, !hidden.contains(face.split(" ")[1]));
        }
    }

    private static void constants() throws ReflectiveOperationException {
        String[] names = {"UNKNOWN", "OUTSIDE", "STATE", "FULL", "NONE"};
        int[] values = {-1, -2, -3, -4, -9};
        for (int i = 0; i < names.length; i++) {
            due.is(names[i], ThrowRows.class.getField(names[i]).getInt(null), values[i]);
        }
        due.is("LOST", ThrowRows.LOST, Long.MIN_VALUE);
        for (Field field : ThrowRows.class.getDeclaredFields()) {
            boolean named = Arrays.asList(names).contains(field.getName()) || field.getName().equals("LOST");
            due.holds(field + " is public just if it is of the face", named == Modifier.isPublic(field.getModifiers()));
            due.holds(field + " is private just if not", named != Modifier.isPrivate(field.getModifiers()));
            due.holds(field + " is final, if static",
                    !Modifier.isStatic(field.getModifiers()) || Modifier.isFinal(field.getModifiers()));
        }
    }

    private static void membersInside(Class<?> inside) {
        for (Method method : inside.getDeclaredMethods()) {
            due.holds(method + " is not public", !Modifier.isPublic(method.getModifiers()));
            due.holds(method + " has a name of its own", !FACE.contains(" " + method.getName() + " "));
        }
        for (Field field : inside.getDeclaredFields()) {
            due.holds(field + " is final, if static",
                    !Modifier.isStatic(field.getModifiers()) || Modifier.isFinal(field.getModifiers()));
        }
    }

    private static void constructor() {
        Constructor<?>[] constructors = ThrowRows.class.getDeclaredConstructors();
        due.is("constructors", constructors.length, 1);
        due.holds("constructor", Modifier.isPublic(constructors[0].getModifiers())
                && constructors[0].getParameterCount() == 0);
        for (Class<?> inside : ThrowRows.class.getDeclaredClasses()) {
            due.holds(inside + " is static", Modifier.isStatic(inside.getModifiers()));
            due.holds(inside + " is not public", !Modifier.isPublic(inside.getModifiers()));
            membersInside(inside);
        }
    }
}
