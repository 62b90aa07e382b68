import java.lang.reflect.Constructor;
import java.lang.reflect.Field;
import java.lang.reflect.Method;
import java.lang.reflect.Modifier;
import java.util.TreeSet;

/** The public face: exactly the document's constants, constructor and methods, the rest private. */
public final class FaceTest {
    private static final Due due = new Due();

    private static final String[] CONSTANTS = {
        "MIN_CAPACITY=4", "MAX_CAPACITY=32", "COORD_MIN=-1000", "COORD_MAX=1000",
        "STATE_EDITING=0", "STATE_READY=1", "STATE_FAILED=2",
        "RESULT_OK=0", "RESULT_NOT_EDITING=1", "RESULT_TOO_FEW=2", "RESULT_REPEATED=3",
        "RESULT_CROSSING=4",
        "KIND_NONE=0", "KIND_START=1", "KIND_SPLIT=2", "KIND_END=3", "KIND_MERGE=4",
        "KIND_REGULAR=5",
        "LOC_NONE=0", "LOC_OUTSIDE=1", "LOC_BOUNDARY=2", "LOC_INSIDE=3"
    };

    private static final String[] METHODS = {
        "int addVertex(int,int)", "boolean removeLast()", "void reset()", "int triangulate()",
        "boolean reopen()", "int status()", "int vertexCount()", "int vertexX(int)",
        "int vertexY(int)", "int area2()", "int vertexKind(int)", "int kindCount(int)",
        "int triangleCount()", "int triangleAreaSum()", "int locate(int,int)",
        "boolean isDiagonal(int,int)"
    };

    public static void main(String[] args) throws IllegalAccessException {
        Class<?> type = MonotoneTriang.class;
        due.is("public final class", type.getModifiers(), Modifier.PUBLIC | Modifier.FINAL);
        due.is("nested classes", type.getDeclaredClasses().length, 0);
        constants(type);
        methods(type);
        Constructor<?>[] constructors = type.getDeclaredConstructors();
        due.is("constructors", constructors.length, 1);
        due.is("the constructor is public", constructors[0].getModifiers(), Modifier.PUBLIC);
        due.end();
    }

    private static void constants(Class<?> type) throws IllegalAccessException {
        TreeSet<String> found = new TreeSet<>();
        for (Field field : type.getDeclaredFields()) {
            if (!Modifier.isPrivate(field.getModifiers())) {
                due.is(field.getName() + " is public static final", field.getModifiers(),
                        Modifier.PUBLIC | Modifier.STATIC | Modifier.FINAL);
                due.is(field.getName() + " is an int", field.getType() == int.class, true);
                found.add(field.getName() + "=" + field.getInt(null));
            }
        }
        same(found, CONSTANTS);
    }

    private static void methods(Class<?> type) {
        TreeSet<String> found = new TreeSet<>();
        for (Method method : type.getDeclaredMethods()) {
            if (!Modifier.isPrivate(method.getModifiers())) {
                due.is(method.getName() + " is public", method.getModifiers(), Modifier.PUBLIC);
                StringBuilder parameters = new StringBuilder();
                for (Class<?> parameter : method.getParameterTypes()) {
                    parameters.append(parameters.length() == 0 ? "" : ",").append(parameter);
                }
                found.add(method.getReturnType() + " " + method.getName() + "(" + parameters + ")");
            }
        }
        same(found, METHODS);
    }

    private static void same(TreeSet<String> found, String[] wanted) {
        for (String want : wanted) {
            due.is("the face has " + want, found.remove(want), true);
        }
        for (String more : found) {
            due.is("the face has " + more, true, false);
        }
    }
}
