import java.lang.reflect.Constructor;
import java.lang.reflect.Field;
import java.lang.reflect.Method;
import java.lang.reflect.Modifier;
import java.util.Arrays;
import java.util.Set;
import java.util.TreeSet;

/** The class has the document's face and no other member that is not private. */
public final class FaceTest {
    private static final String INDEX = " IndexOutOfBoundsException";
    private static final String ARGUMENT = " IllegalArgumentException";
    private static final String STATE = " IllegalStateException";

    public static void main(String[] args) {
        Set<String> due = new TreeSet<>(Arrays.asList(
                "int cut 3" + INDEX + ARGUMENT,
                "int use 3" + INDEX + ARGUMENT + STATE,
                "int drop 3" + INDEX + ARGUMENT + STATE,
                "int newLine 0",
                "int addTray 0" + STATE,
                "int closeShelves 0",
                "int letter 4" + INDEX + ARGUMENT,
                "int sign 2" + INDEX + ARGUMENT,
                "int tray 2" + INDEX + ARGUMENT,
                "int shelf 3" + INDEX + ARGUMENT,
                "int at 3" + INDEX + ARGUMENT,
                "int street 1" + ARGUMENT,
                "int whole 1" + ARGUMENT,
                "int rule 3" + INDEX + ARGUMENT,
                "int takenBy 3" + INDEX + ARGUMENT,
                "int costOf 3" + INDEX + ARGUMENT,
                "int oldest 0",
                "int greatestGap 0",
                "int type 1" + ARGUMENT + STATE,
                "int clearCommands 0",
                "int runCommands 0",
                "int undo 0" + STATE,
                "long digest 0"));
        Check.compare("the public methods", due.toString(), methodsOf(TypeTrays.class).toString());
        checkConstructor();
        checkFields();
        checkNamesOfPrivateMethods();
        int kind = TypeTrays.class.getModifiers();
        Check.due("public and final", 1, () -> Modifier.isPublic(kind) && Modifier.isFinal(kind) ? 1 : 0);
        Check.due("NONE", -1, () -> TypeTrays.NONE);
        Check.end();
    }

    private static Set<String> methodsOf(Class<?> type) {
        Set<String> found = new TreeSet<>();
        for (Method method : type.getDeclaredMethods()) {
            if (Modifier.isPrivate(method.getModifiers())) {
                continue;
            }
            StringBuilder text = new StringBuilder();
            text.append(method.getReturnType()).append(' ').append(method.getName()).append(' ');
            text.append(method.getParameterCount());
            for (Class<?> thrown : method.getExceptionTypes()) {
                text.append(' ').append(thrown.getSimpleName());
            }
            found.add(text.toString());
        }
        return found;
    }

    private static void checkConstructor() {
        Constructor<?>[] constructors = TypeTrays.class.getDeclaredConstructors();
        Check.due("constructors", 1, () -> constructors.length);
        Check.due("parameters of the constructor", 0, () -> constructors[0].getParameterCount());
    }

    private static void checkFields() {
        for (Field field : TypeTrays.class.getDeclaredFields()) {
            int kind = field.getModifiers();
            boolean isNone = field.getName().equals("NONE");
            Check.due("field " + field.getName() + " is private unless NONE", 1,
                    () -> isNone || Modifier.isPrivate(kind) ? 1 : 0);
            Check.due("field " + field.getName() + " is final if static", 1,
                    () -> !Modifier.isStatic(kind) || Modifier.isFinal(kind) ? 1 : 0);
        }
    }

    private static void checkNamesOfPrivateMethods() {
        Set<String> face = new TreeSet<>();
        for (Method method : TypeTrays.class.getDeclaredMethods()) {
            if (Modifier.isPublic(method.getModifiers())) {
                face.add(method.getName());
            }
        }
        checkNames(face, TypeTrays.class);
        for (Class<?> inside : TypeTrays.class.getDeclaredClasses()) {
            checkNames(face, inside);
            int kind = inside.getModifiers();
            Check.due(inside.getName() + " is private and static", 1,
                    () -> Modifier.isPrivate(kind) && Modifier.isStatic(kind) ? 1 : 0);
        }
    }

    private static void checkNames(Set<String> face, Class<?> type) {
        for (Method method : type.getDeclaredMethods()) {
            boolean isPublic = Modifier.isPublic(method.getModifiers());
            Check.due("name of " + method + " is not one of the face", 1,
                    () -> isPublic || !face.contains(method.getName()) ? 1 : 0);
        }
    }
}
