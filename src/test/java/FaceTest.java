import java.io.IOException;
import java.lang.reflect.Constructor;
import java.lang.reflect.Field;
import java.lang.reflect.Method;
import java.lang.reflect.Modifier;
import java.nio.file.Files;
import java.nio.file.Path;
import java.util.Set;
import java.util.TreeSet;
import java.util.regex.Matcher;
import java.util.regex.Pattern;

/** The public face of the document, and the rules of LANGUAGE.md that the class or its text can show. */
public final class FaceTest {
    private static final Due due = new Due("FaceTest");
    private static final Set<String> FACE = new TreeSet<>(Set.of(
        "int set(int,int,int)", "int add(int,int)", "int move(int,int)", "int out(int,int)", "int same(int,int)",
        "int flow(int,int)", "int drop()", "int length()", "boolean sound()", "int faults(int)",
        "boolean reached(int)", "int carries(int,int)", "boolean start(int)", "int step(int)", "int status()",
        "int outs()", "int lastOut(int)"));
    private static final Set<String> CONSTANTS = new TreeSet<>(Set.of(
        "FIRST=1", "SECOND=2", "LEAVES=4", "BAD=-1", "FULL=-2", "IDLE=0", "RUNNING=1", "STOPPED=2"));
    private static final Set<Class<?>> TYPES = Set.of(int.class, long.class, short.class, byte.class, char.class,
        boolean.class, int[].class, long[].class, short[].class, byte[].class, char[].class, boolean[].class);
    private static final String WORDS_LEFT_OUT = "import|package|throw|throws|try|catch|finally|synchronized|assert"
        + "|instanceof|null|float|double|String|Math|Integer|Long|System|Arrays|Object|interface|enum|record|extends"
        + "|implements|protected|native|volatile|transient|abstract|strictfp|equals|hashCode|toString|getClass";

    public static void main(String[] args) throws IllegalAccessException, IOException {
        methods();
        fields();
        theRest();
        text();
        due.end();
    }

    private static void methods() {
        Set<String> open = new TreeSet<>();
        Set<String> openNames = new TreeSet<>();
        for (Method method : AllocChecker.class.getDeclaredMethods()) {
            if (!Modifier.isPrivate(method.getModifiers())) {
                open.add(signature(method));
                openNames.add(method.getName());
                due.yes(method + " is public", Modifier.isPublic(method.getModifiers()));
                due.no(method + " is static", Modifier.isStatic(method.getModifiers()));
            }
        }
        for (Method method : AllocChecker.class.getDeclaredMethods()) {
            if (Modifier.isPrivate(method.getModifiers())) {
                due.no(method + " bears a public name", openNames.contains(method.getName()));
                due.no(method + " answers an array", method.getReturnType().isArray());
            }
            due.yes(method + " has seven parameters at most", method.getParameterCount() <= 7);
        }
        due.yes("the public methods " + open, open.equals(FACE));
    }

    private static String signature(Method method) {
        StringBuilder types = new StringBuilder();
        for (Class<?> type : method.getParameterTypes()) {
            types.append(types.length() == 0 ? "" : ",").append(type.getName());
        }
        return method.getReturnType().getName() + " " + method.getName() + "(" + types + ")";
    }

    private static void fields() throws IllegalAccessException {
        Set<String> open = new TreeSet<>();
        int ownFields = 0;
        for (Field field : AllocChecker.class.getDeclaredFields()) {
            int modifiers = field.getModifiers();
            boolean isStatic = Modifier.isStatic(modifiers);
            due.yes(field + " is of a type that is left", TYPES.contains(field.getType()));
            if (isStatic) {
                due.yes(field + " is a constant", Modifier.isFinal(modifiers)
                    && (field.getType() == int.class || field.getType() == long.class));
            } else {
                ownFields++;
            }
            if (!Modifier.isPrivate(modifiers)) {
                due.yes(field + " is public", Modifier.isPublic(modifiers) && isStatic);
                due.yes(field + " is an int", field.getType() == int.class);
                open.add(field.getName() + "=" + field.getInt(null));
            }
        }
        due.yes("the constants " + open, open.equals(CONSTANTS));
        due.yes("forty fields at most", ownFields <= 40);
    }

    private static void theRest() {
        Class<?> type = AllocChecker.class;
        Constructor<?>[] constructors = type.getDeclaredConstructors();
        due.number("constructors", constructors.length, 1);
        due.number("their parameters", constructors[0].getParameterCount(), 0);
        due.yes("the constructor is public", Modifier.isPublic(constructors[0].getModifiers()));
        due.yes("the class is public and final",
            Modifier.isPublic(type.getModifiers()) && Modifier.isFinal(type.getModifiers()));
        due.number("nested classes", type.getDeclaredClasses().length, 0);
        due.yes("no package", type.getPackageName().isEmpty());
        due.yes("no parent", type.getSuperclass() == Object.class && type.getInterfaces().length == 0);
    }

    private static void text() throws IOException {
        String text = Files.readString(Path.of("src/main/java/AllocChecker.java"));
        String code = text.replaceAll("(?s)/\\*.*?\\*/", "").replaceAll("//[^\\n]*", "");
        Matcher word = Pattern.compile("\\b(" + WORDS_LEFT_OUT + ")\\b|->|::|\"|\\[\\s*\\]\\s*\\[").matcher(code);
        while (word.find()) {
            due.yes("'" + word.group() + "' is left out", false);
        }
        for (String line : code.split("\n")) {
            if (line.contains("new ")) {
                due.yes("made at the start: " + line.strip(), line.startsWith("    private final "));
            }
        }
        due.no("a call inside a call's arguments", callInsideACall(code));
    }

    /** Looks for name( .. name( .. within one pair of brackets; if, for, while and switch are no calls. */
    private static boolean callInsideACall(String code) {
        Pattern call = Pattern.compile("\\b(?!if\\b|for\\b|while\\b|switch\\b|return\\b)[A-Za-z]\\w*\\s*\\(");
        Matcher outer = call.matcher(code);
        while (outer.find()) {
            int depth = 1, end = outer.end();
            while (end < code.length() && depth > 0) {
                depth += code.charAt(end) == '(' ? 1 : code.charAt(end) == ')' ? -1 : 0;
                end++;
            }
            if (call.matcher(code.substring(outer.end(), end)).find()) {
                System.out.println("a call inside " + code.substring(outer.start(), end));
                return true;
            }
        }
        return false;
    }
}
