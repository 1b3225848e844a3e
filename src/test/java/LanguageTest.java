import java.io.IOException;
import java.lang.reflect.Field;
import java.lang.reflect.Method;
import java.lang.reflect.Modifier;
import java.nio.file.Files;
import java.nio.file.Path;
import java.util.Map;
import java.util.Set;
import java.util.TreeMap;
import java.util.TreeSet;
import java.util.regex.Matcher;
import java.util.regex.Pattern;

/** The rules of LANGUAGE.md that the class or its text can show, by their numbers. */
public final class LanguageTest {
    private static final int MOST_LINES = 60;
    private static final int MOST_DEEP = 6;
    private static final int MOST_PARAMETERS = 7;
    private static final int MOST_FIELDS = 40;
    private static final Set<Class<?>> TYPES = Set.of(int.class, long.class, short.class, byte.class, char.class,
        boolean.class, int[].class, long[].class, short[].class, byte[].class, char[].class, boolean[].class);
    private static final String WORDS_LEFT_OUT = "import|package|throw|throws|try|catch|finally|synchronized|assert"
        + "|instanceof|null|float|double|String|Math|Integer|Long|System|Arrays|Object|interface|enum|record|extends"
        + "|implements|protected|native|volatile|transient|abstract|strictfp|equals|hashCode|toString|getClass";
    private static final Pattern CALL =
        Pattern.compile("\\b(?!if\\b|for\\b|while\\b|switch\\b|return\\b)([A-Za-z]\\w*)\\s*\\(");
    private static final Pattern HEAD =
        Pattern.compile("\\b(?:public|private)\\s+(?:static\\s+)?\\w+\\s+(\\w+)\\s*\\([^)]*\\)\\s*\\{");
    private static final Due due = new Due("LanguageTest");

    public static void main(String[] args) throws IOException {
        oneClass();
        fields();
        parameters();
        String text = Files.readString(Path.of("src/main/java/AllocChecker.java"));
        String code = text.replaceAll("(?s)/\\*.*?\\*/", "").replaceAll("//[^\\n]*", "");
        wordsLeftOut(code);
        noCallInsideACall(code);
        Map<String, String> bodies = bodies(code);
        due.number("methods found in the text", bodies.size(), AllocChecker.class.getDeclaredMethods().length);
        for (String name : bodies.keySet()) {
            aMethod(name, bodies);
        }
        due.end();
    }

    /** Rule 1. */
    private static void oneClass() {
        due.number("nested classes", AllocChecker.class.getDeclaredClasses().length, 0);
        due.yes("no package", AllocChecker.class.getPackageName().isEmpty());
        Set<String> names = new TreeSet<>();
        for (Method method : AllocChecker.class.getDeclaredMethods()) {
            due.yes("no other method is named " + method.getName(), names.add(method.getName()));
        }
    }

    /** Rules 2, 5 and 10. */
    private static void fields() {
        int ownFields = 0;
        for (Field field : AllocChecker.class.getDeclaredFields()) {
            Class<?> type = field.getType();
            due.yes(field + " is of a type that is left", TYPES.contains(type));
            if (Modifier.isStatic(field.getModifiers())) {
                boolean isNumber = type == int.class || type == long.class;
                due.yes(field + " is a constant", Modifier.isFinal(field.getModifiers()) && isNumber);
            } else {
                ownFields++;
            }
        }
        due.yes("so many fields: " + ownFields, ownFields <= MOST_FIELDS);
    }

    /** Rules 2, 4 and 10. */
    private static void parameters() {
        for (Method method : AllocChecker.class.getDeclaredMethods()) {
            Class<?> answer = method.getReturnType();
            due.yes(method + " has few parameters", method.getParameterCount() <= MOST_PARAMETERS);
            due.yes(method + " answers a number or nothing",
                answer == void.class || TYPES.contains(answer) && !answer.isArray());
            for (Class<?> type : method.getParameterTypes()) {
                due.yes(method + " takes what is left", TYPES.contains(type));
            }
        }
    }

    /** Rules 2, 3 and 6. */
    private static void wordsLeftOut(String code) {
        Matcher word = Pattern.compile("\\b(" + WORDS_LEFT_OUT + ")\\b|->|::|\"|\\[\\s*\\]\\s*\\[").matcher(code);
        while (word.find()) {
            due.yes("'" + word.group() + "' is left out", false);
        }
    }

    /** Rule 10: looks for name( .. name( .. within one pair of brackets. */
    private static void noCallInsideACall(String code) {
        Matcher outer = CALL.matcher(code);
        while (outer.find()) {
            String arguments = upToTheOther('(', ')', code.substring(outer.end()));
            due.no("a call inside " + outer.group() + arguments, CALL.matcher(arguments).find());
        }
    }

    /** Each method's text by its name. */
    private static Map<String, String> bodies(String code) {
        Map<String, String> bodies = new TreeMap<>();
        Matcher head = HEAD.matcher(code);
        while (head.find()) {
            bodies.put(head.group(1), upToTheOther('{', '}', code.substring(head.end())));
        }
        return bodies;
    }

    /** What stands behind an opening bracket, with the closing one that belongs to it. */
    private static String upToTheOther(char opening, char closing, String text) {
        int depth = 1, end = 0;
        while (end < text.length() && depth > 0) {
            char c = text.charAt(end);
            depth += c == opening ? 1 : c == closing ? -1 : 0;
            end++;
        }
        return text.substring(0, end);
    }

    /** Rules 4, 8 and 10. */
    private static void aMethod(String name, Map<String, String> bodies) {
        String body = bodies.get(name);
        due.no(name + " makes something", Pattern.compile("\\bnew\\b").matcher(body).find());
        due.yes(name + " is short", body.lines().count() <= MOST_LINES);
        // A method that calls itself in the end is endlessly deep: it is still there after any number of calls.
        Set<String> called = new TreeSet<>(Set.of(name));
        int deep = 0;
        while (!called.isEmpty() && deep <= MOST_DEEP) {
            called = calledBy(called, bodies);
            deep++;
        }
        due.yes("calls from " + name + " go at most " + MOST_DEEP + " deep", deep <= MOST_DEEP);
    }

    private static Set<String> calledBy(Set<String> names, Map<String, String> bodies) {
        Set<String> called = new TreeSet<>();
        for (String name : names) {
            Matcher call = CALL.matcher(bodies.get(name));
            while (call.find()) {
                due.yes(call.group(1) + " is a method of the class", bodies.containsKey(call.group(1)));
                if (bodies.containsKey(call.group(1))) {
                    called.add(call.group(1));
                }
            }
        }
        return called;
    }
}
