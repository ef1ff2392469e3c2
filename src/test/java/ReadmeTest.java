import java.io.IOException;
import java.lang.reflect.InvocationTargetException;
import java.lang.reflect.Method;
import java.nio.file.Files;
import java.nio.file.Path;
import java.util.Arrays;
import java.util.regex.Matcher;
import java.util.regex.Pattern;

/** README.md tells each call of the face, and its example answers what is written there. */
public final class ReadmeTest {
    private static final Pattern TEXT = Pattern.compile("for \\(char letter : \"([^\"]+)\"");
    private static final Pattern CALL = Pattern.compile("(?m)^court\\.([a-z]+)\\(([-0-9, ]*)\\); +// (-?\\d+): ");

    public static void main(String[] args) throws IOException, IllegalAccessException, InvocationTargetException {
        String readme = Files.readString(Path.of("README.md"));
        example(readme);
        for (Method method : DoubtCourt.class.getDeclaredMethods()) {
            if (method.getModifiers() == java.lang.reflect.Modifier.PUBLIC) {
                Pattern row = Pattern.compile("(?m)^\\| `" + method.getName() + "\\(([^)]*)\\)` \\|");
                Matcher told = row.matcher(readme);
                Due.isTrue(method.getName() + " is told", told.find());
                Due.same("numbers of " + method.getName(), numbers(told.group(1)).length, method.getParameterCount());
            }
        }
        String[] names = {"BAD", "NO", "FULL", "NONE"};
        for (int i = 0; i < names.length; i++) {
            Due.isTrue(names[i] + " is told", readme.contains("\n| `" + names[i] + "` | " + (-1 - i) + " | "));
        }
        Due.end("ReadmeTest");
    }

    private static void example(String readme) throws IllegalAccessException, InvocationTargetException {
        Matcher text = TEXT.matcher(readme);
        Due.isTrue("an example's text", text.find());
        DoubtCourt court = new DoubtCourt();
        Due.write(court, text.group(1));
        Matcher call = CALL.matcher(readme);
        int calls = 0;
        while (call.find()) {
            Object[] numbers = Arrays.stream(numbers(call.group(2))).map(Integer::valueOf).toArray();
            for (Method method : DoubtCourt.class.getDeclaredMethods()) {
                if (method.getName().equals(call.group(1))) {
                    Due.same("README: " + call.group(), (Integer) method.invoke(court, numbers), Integer.parseInt(call.group(3)));
                    calls++;
                }
            }
        }
        Due.same("calls of the example", calls, 11);
    }

    private static String[] numbers(String told) {
        return told.isEmpty() ? new String[0] : told.split(", ");
    }
}
