import java.lang.reflect.Constructor;
import java.lang.reflect.Field;
import java.lang.reflect.Method;
import java.lang.reflect.Modifier;
import java.util.Set;
import java.util.TreeSet;

/** The public face of the document, with nothing more in it and nothing less. */
public final class FaceTest {
    private static final Due due = new Due("FaceTest");
    private static final Set<String> METHODS = new TreeSet<>(Set.of(
        "int set(int,int,int)", "int add(int,int)", "int move(int,int)", "int out(int,int)", "int same(int,int)",
        "int flow(int,int)", "int drop()", "int length()", "boolean sound()", "int faults(int)",
        "boolean reached(int)", "int carries(int,int)", "boolean start(int)", "int step(int)", "int status()",
        "int outs()", "int lastOut(int)"));
    private static final Set<String> CONSTANTS = new TreeSet<>(Set.of(
        "FIRST=1", "SECOND=2", "LEAVES=4", "BAD=-1", "FULL=-2", "IDLE=0", "RUNNING=1", "STOPPED=2"));

    public static void main(String[] args) throws IllegalAccessException {
        theClass();
        methods();
        constants();
        due.end();
    }

    private static void theClass() {
        Class<?> type = AllocChecker.class;
        due.yes("the class is public and final",
            Modifier.isPublic(type.getModifiers()) && Modifier.isFinal(type.getModifiers()));
        due.yes("no parent", type.getSuperclass() == Object.class && type.getInterfaces().length == 0);
        Constructor<?>[] constructors = type.getDeclaredConstructors();
        due.number("constructors", constructors.length, 1);
        due.number("their parameters", constructors[0].getParameterCount(), 0);
        due.yes("the constructor is public", Modifier.isPublic(constructors[0].getModifiers()));
    }

    private static void methods() {
        Set<String> open = new TreeSet<>();
        for (Method method : AllocChecker.class.getDeclaredMethods()) {
            if (!Modifier.isPrivate(method.getModifiers())) {
                open.add(signature(method));
                due.yes(method + " is public", Modifier.isPublic(method.getModifiers()));
                due.no(method + " is static", Modifier.isStatic(method.getModifiers()));
            }
        }
        due.text("the public methods", open.toString(), METHODS.toString());
    }

    private static String signature(Method method) {
        StringBuilder types = new StringBuilder();
        for (Class<?> type : method.getParameterTypes()) {
            types.append(types.length() == 0 ? "" : ",").append(type.getName());
        }
        return method.getReturnType().getName() + " " + method.getName() + "(" + types + ")";
    }

    private static void constants() throws IllegalAccessException {
        Set<String> open = new TreeSet<>();
        for (Field field : AllocChecker.class.getDeclaredFields()) {
            int modifiers = field.getModifiers();
            if (!Modifier.isPrivate(modifiers)) {
                boolean isConstant = Modifier.isPublic(modifiers) && Modifier.isStatic(modifiers)
                    && Modifier.isFinal(modifiers) && field.getType() == int.class;
                due.yes(field + " is a public int constant", isConstant);
                open.add(field.getName() + "=" + (isConstant ? field.getInt(null) : "?"));
            }
        }
        due.text("the constants", open.toString(), CONSTANTS.toString());
    }
}
