import java.io.File;
import java.io.IOException;
import java.lang.reflect.Method;
import java.nio.file.Files;
import java.nio.file.Path;
import java.util.regex.Matcher;
import java.util.regex.Pattern;

/** README.md: the calls of its examples, all on one object, with the answers that stand behind them. */
public final class ReadmeTest {
    private static final Pattern BLOCK = Pattern.compile("(?s)```java\n(.*?)```");
    private static final Pattern CALL = Pattern.compile("x\\.(\\w+)\\(([^)]*)\\);\\s*// (-?\\w+).*");
    private static final Due due = new Due("ReadmeTest");

    public static void main(String[] args) throws IOException, ReflectiveOperationException {
        String readme = Files.readString(Path.of("README.md"));
        examples(readme);
        everyTestIsNamed(readme);
        due.end();
    }

    private static void examples(String readme) throws ReflectiveOperationException {
        AllocChecker x = new AllocChecker();
        int calls = 0;
        Matcher block = BLOCK.matcher(readme);
        while (block.find()) {
            for (String line : block.group(1).split("\n")) {
                Matcher call = CALL.matcher(line);
                boolean isCall = call.matches();
                due.yes("a new object or a call with its answer: " + line,
                    isCall || line.equals("AllocChecker x = new AllocChecker();"));
                if (isCall) {
                    due.text(line, answer(x, call.group(1), call.group(2)), call.group(3));
                    calls++;
                }
            }
        }
        due.yes("calls in the examples: " + calls, calls > 0);
    }

    private static String answer(AllocChecker x, String name, String given) throws ReflectiveOperationException {
        String[] sums = given.isEmpty() ? new String[0] : given.split(",");
        Class<?>[] types = new Class<?>[sums.length];
        Object[] numbers = new Object[sums.length];
        for (int i = 0; i < sums.length; i++) {
            types[i] = int.class;
            numbers[i] = sum(sums[i]);
        }
        Method method = AllocChecker.class.getMethod(name, types);
        return method.invoke(x, numbers).toString();
    }

    /** A number, or a sum of products as add takes it. */
    private static int sum(String text) {
        int sum = 0;
        for (String part : text.split("\\+")) {
            int product = 1;
            for (String number : part.split("\\*")) {
                product *= Integer.parseInt(number.strip());
            }
            sum += product;
        }
        return sum;
    }

    private static void everyTestIsNamed(String readme) {
        for (String file : new File("src/test/java").list()) {
            due.yes(file + " is named in README.md", readme.contains("`" + file.replace(".java", "") + "`"));
        }
    }
}
