import java.io.IOException;
import java.lang.reflect.InvocationTargetException;
import java.lang.reflect.Method;
import java.nio.file.Files;
import java.nio.file.Path;
import java.util.HashMap;
import java.util.Map;
import java.util.regex.Matcher;
import java.util.regex.Pattern;

/** Makes the calls that README.md shows, one behind the other, and compares the answers that stand behind them. */
public final class ReadmeTest {
    private static final Pattern MADE = Pattern.compile("CrossReader x = new CrossReader\\(\\);");
    private static final Pattern PUT = Pattern.compile("put\\(x, \"(.*)\"\\);");
    private static final Pattern CALL = Pattern.compile("x\\.(\\w+)\\((.*)\\); // (-?\\d+)(?:: (.*))?");
    private static final Pattern TEXT = Pattern.compile("\"(.*)\"");

    private final Checks checks = new Checks();
    private final Map<String, Method> methods = new HashMap<>();
    private CrossReader x = new CrossReader();
    private int calls = 0;

    public static void main(String[] args) throws IOException, IllegalAccessException, InvocationTargetException {
        ReadmeTest test = new ReadmeTest();
        for (Method method : CrossReader.class.getDeclaredMethods()) {
            test.methods.put(method.getName(), method);
        }
        for (String line : Files.readAllLines(Path.of("README.md"))) {
            test.checks.about("README.md: " + line);
            test.follow(line);
        }
        test.checks.due("calls on the page", test.calls > 40 ? 1 : 0, 1);
        test.checks.finish();
    }

    private void follow(String line) throws IllegalAccessException, InvocationTargetException {
        Matcher put = PUT.matcher(line);
        Matcher call = CALL.matcher(line);
        if (MADE.matcher(line).matches()) {
            x = new CrossReader();
        } else if (put.matches()) {
            Checks.tape(x, put.group(1));
        } else if (call.matches()) {
            calls++;
            long answer = answerOf(methods.get(call.group(1)), call.group(2));
            checks.due(call.group(1), answer, Long.parseLong(call.group(3)));
            lookAtTold(call.group(1), call.group(4));
        } else {
            checks.due("a call that is not understood", line.startsWith("x.") ? 1 : 0, 0);
        }
    }

    private long answerOf(Method method, String given) throws IllegalAccessException, InvocationTargetException {
        String[] numbers = given.isEmpty() ? new String[0] : given.split(", ");
        Object[] values = new Object[numbers.length];
        for (int i = 0; i < numbers.length; i++) {
            long value = Long.decode(numbers[i]);
            boolean wide = method.getParameterTypes()[i] == long.class;
            values[i] = wide ? (Object) value : (Object) (int) value;
        }
        return ((Number) method.invoke(x, values)).longValue();
    }

    private void lookAtTold(String name, String words) {
        Matcher text = TEXT.matcher(words == null ? "" : words);
        if (name.startsWith("tell")) {
            checks.due("a text is shown", text.find() ? 1 : 0, 1);
            checks.due("the text", Checks.told(x), text.group(1));
        }
    }
}
