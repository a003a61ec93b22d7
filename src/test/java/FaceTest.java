import java.lang.reflect.Constructor;
import java.lang.reflect.Field;
import java.lang.reflect.Method;
import java.lang.reflect.Modifier;
import java.util.TreeSet;

/** The public face: the constants, constructor and methods of the document, and no other. */
public final class FaceTest {
    private static final String CONSTANTS = "[CHECK_BAD=2, CHECK_NONE=0, CHECK_OK=1, CHECK_TOO_BIG=3, HYPOTHESES=8,"
            + " KIND_CHAIN=2, KIND_CONCLUSION=1, KIND_HYPOTHESIS=0, KIND_QUOTIENT=3, KIND_REMAINDER=4, MAX_EXP=15,"
            + " MAX_TERMS=16, STATUS_IDLE=0, STATUS_INCONSISTENT=3, STATUS_NOT_PROVED=2, STATUS_OVERFLOW=4,"
            + " STATUS_PROVED=1, TARGET_CONCLUSION=8]";
    private static final String METHODS = "[int addTerm/3, int chainSize/0, int check/0, int classOf/2,"
            + " int clearPoly/1, int multiplier/1, int prime/0, int prove/0, int status/0, int termCode/3,"
            + " int termCoef/3, int termCount/2, int varCount/0]";

    public static void main(String[] args) throws IllegalAccessException {
        TreeSet<String> constants = new TreeSet<>();
        for (Field field : WuProver.class.getDeclaredFields()) {
            if (!Modifier.isPrivate(field.getModifiers())) {
                Tools.due(field.getName() + " is public static final",
                        field.getModifiers(), Modifier.PUBLIC | Modifier.STATIC | Modifier.FINAL);
                constants.add(field.getName() + "=" + field.getInt(null));
            }
        }
        Tools.due("the constants", constants.toString(), CONSTANTS);

        TreeSet<String> methods = new TreeSet<>();
        for (Method method : WuProver.class.getDeclaredMethods()) {
            if (!Modifier.isPrivate(method.getModifiers())) {
                Tools.due(method.getName() + " is public", method.getModifiers(), Modifier.PUBLIC);
                methods.add(method.getReturnType() + " " + method.getName() + "/" + method.getParameterCount());
                takesInts(method.getName(), method.getParameterTypes());
            }
        }
        Tools.due("the methods", methods.toString(), METHODS);

        Constructor<?>[] constructors = WuProver.class.getDeclaredConstructors();
        Tools.due("constructors", constructors.length, 1);
        Tools.due("constructor is public", constructors[0].getModifiers(), Modifier.PUBLIC);
        Tools.due("constructor's parameters", constructors[0].getParameterCount(), 2);
        takesInts("constructor", constructors[0].getParameterTypes());
        Tools.due("the class", WuProver.class.getModifiers(), Modifier.PUBLIC | Modifier.FINAL);
        Tools.end();
    }

    private static void takesInts(String name, Class<?>[] types) {
        for (Class<?> type : types) {
            Tools.due(name + " takes", type.toString(), "int");
        }
    }
}
