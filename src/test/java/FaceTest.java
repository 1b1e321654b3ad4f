import java.lang.reflect.Constructor;
import java.lang.reflect.Field;
import java.lang.reflect.Method;
import java.lang.reflect.Modifier;
import java.util.Arrays;
import java.util.Set;
import java.util.TreeSet;
import java.util.stream.Collectors;

/** The class has the document's face, and nothing else that can be seen. */
final class FaceTest {
    private static final String INDEX = " throws IndexOutOfBoundsException";
    private static final String STATE = " throws IllegalStateException";
    private static final String ARGUMENT = " throws IllegalArgumentException";
    private static final String INDEX_STATE = INDEX + ", IllegalStateException";
    private static final String INDEX_ARGUMENT = INDEX + ", IllegalArgumentException";
    private static final String[] FACE = {
        "int feed(int, int, int, int, int)" + STATE, "int trim(int)" + ARGUMENT, "int teach()",
        "int errorAt()", "int actors()", "int plays()", "int notes()", "int evenings()",
        "int notesCarriedOut()", "int tapeBytes()", "int sizeOf(int)" + INDEX,
        "int masksIn(int)" + INDEX, "int scenesIn(int)" + INDEX, "int mostMasksAround(int)" + INDEX,
        "int standsIn(int, int)" + INDEX, "int stepsDone(int)" + INDEX,
        "boolean isFinished(int)" + INDEX, "boolean canStep(int)" + INDEX,
        "int textLength(int)" + INDEX, "int letterAt(int, int)" + INDEX,
        "int nextSceneAt(int)" + INDEX_STATE, "int renamedByStep(int)" + INDEX_STATE,
        "boolean isSame(int, int)" + INDEX, "boolean isAsTold(int)" + INDEX,
        "int doStep(int)" + INDEX_STATE, "int give(int, int)" + INDEX_STATE,
        "int renew(int)" + INDEX, "int passEvenings(int)" + ARGUMENT,
        "int stepsToFinish(int)" + INDEX_STATE, "int sizeAfterSteps(int, int)" + INDEX_ARGUMENT,
        "boolean endSame(int, int)" + INDEX, "int sizeAfterEvenings(int, int)" + INDEX_ARGUMENT,
        "int eveningsUntilFinished(int)" + INDEX, "int bestGift(int)" + INDEX, "double meanSize()",
        "long digest()",
    };

    private FaceTest() {
    }

    public static void main(String[] args) {
        Class<MaskPlays> face = MaskPlays.class;
        Dues.due("public and final", face.getModifiers(), Modifier.PUBLIC | Modifier.FINAL);
        Set<String> methods = new TreeSet<>();
        Set<String> names = new TreeSet<>();
        for (Method method : face.getDeclaredMethods()) {
            if (!Modifier.isPrivate(method.getModifiers()) && !method.isSynthetic()) {
                Dues.due("public: " + method, method.getModifiers(), Modifier.PUBLIC);
                methods.add(described(method));
                names.add(method.getName());
            }
        }
        Dues.due("methods", methods.toString(), new TreeSet<>(Arrays.asList(FACE)).toString());
        for (Constructor<?> constructor : face.getDeclaredConstructors()) {
            Dues.due("constructor", constructor.toString(), "public MaskPlays()");
        }
        for (Field field : face.getDeclaredFields()) {
            Dues.due("private: " + field, Modifier.isPrivate(field.getModifiers()), true);
        }
        lookAtClassesInside(face, names);
        Dues.end();
    }

    private static void lookAtClassesInside(Class<?> face, Set<String> names) {
        Class<?>[] inside = face.getDeclaredClasses();
        Dues.due("at most twelve classes", inside.length + 1 <= 12, true);
        for (Class<?> one : inside) {
            Dues.due("static: " + one, Modifier.isStatic(one.getModifiers()), true);
            Dues.due("not public: " + one, Modifier.isPublic(one.getModifiers()), false);
            for (Method method : one.getDeclaredMethods()) {
                Dues.due("a name of the face: " + method, names.contains(method.getName()), false);
                Dues.due("parameters: " + method, method.getParameterCount() <= 7, true);
            }
            for (Field field : one.getDeclaredFields()) {
                boolean isState = Modifier.isStatic(field.getModifiers())
                        && !Modifier.isFinal(field.getModifiers());
                Dues.due("static state: " + field, isState, false);
            }
        }
    }

    private static String described(Method method) {
        String parameters = Arrays.stream(method.getParameterTypes()).map(Class::getSimpleName)
                .collect(Collectors.joining(", "));
        String thrown = Arrays.stream(method.getExceptionTypes()).map(Class::getSimpleName)
                .collect(Collectors.joining(", "));
        String start = method.getReturnType().getSimpleName() + " " + method.getName() + "(" + parameters + ")";
        return thrown.isEmpty() ? start : start + " throws " + thrown;
    }
}
