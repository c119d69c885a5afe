import java.io.IOException;
import java.lang.reflect.InvocationTargetException;
import java.lang.reflect.Method;
import java.nio.file.Files;
import java.nio.file.Path;
import java.util.Arrays;
import java.util.regex.Matcher;
import java.util.regex.Pattern;

/** The calls of README.md's example, in their order, answer what the comment behind each begins with. */
public final class ReadmeTest {
    private static final Pattern CALL = Pattern.compile("x\\.(\\w+)\\(([^)]*)\\); +// (true|false|-?\\d+).*");

    private static int calls = 0;
    private static int wrong = 0;

    public static void main(String[] args) throws IOException, IllegalAccessException, InvocationTargetException {
        PermGroup x = new PermGroup();
        for (String line : Files.readAllLines(Path.of("README.md"))) {
            if (line.startsWith("x.")) {
                check(x, line);
            }
        }
        if (calls == 0) {
            wrong++;
            System.out.println("README.md has no example");
        }
        System.out.println(wrong == 0 ? calls + " answers are as due" : wrong + " answers are not as due");
        if (wrong != 0) {
            System.exit(1);
        }
    }

    private static void check(PermGroup x, String line) throws IllegalAccessException, InvocationTargetException {
        calls++;
        Matcher call = CALL.matcher(line);
        Object answer = call.matches() ? called(x, call.group(1), call.group(2)) : "nothing, it can't be read";
        if (!call.matches() || !answer.equals(value(call.group(3)))) {
            wrong++;
            System.out.println(line + " answered " + answer);
        }
    }

    private static Object called(PermGroup x, String name, String arguments)
            throws IllegalAccessException, InvocationTargetException {
        Object[] values = arguments.isEmpty() ? new Object[0]
            : Arrays.stream(arguments.split(", ")).map(ReadmeTest::value).toArray();
        for (Method method : PermGroup.class.getMethods()) {
            if (method.getName().equals(name) && method.getParameterCount() == values.length) {
                return method.invoke(x, values);
            }
        }
        return "nothing, there is no such call";
    }

    private static Object value(String text) {
        return text.equals("true") || text.equals("false") ? (Object) text.equals("true") : Integer.decode(text);
    }
}
