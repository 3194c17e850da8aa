import java.io.IOException;
import java.lang.reflect.Method;
import java.lang.reflect.Modifier;
import java.nio.file.Files;
import java.nio.file.Path;
import java.util.regex.Matcher;
import java.util.regex.Pattern;

/** README.md: the calls of its example answer as their comments say, and every public method is named. */
final class ReadmeTest {
    private static final Check CHECK = new Check("ReadmeTest");
    private static final Pattern EXAMPLE = Pattern.compile("(?s)```java\n(.*?)```");
    private static final Pattern CALL = Pattern.compile("x\\.(\\w+)\\(([^)]*)\\);\\s*// (-?\\d+):.*");
    private static final String MADE = "LoopBoard x = new LoopBoard();";

    public static void main(String[] args) throws IOException, ReflectiveOperationException {
        String text = Files.readString(Path.of("README.md"));
        example(text);
        allCallsNamed(text);
        CHECK.end();
    }

    private static void example(String text) throws ReflectiveOperationException {
        Matcher example = EXAMPLE.matcher(text);
        boolean isThere = example.find();
        CHECK.holds("an example", isThere);
        LoopBoard x = new LoopBoard();
        for (String line : isThere ? example.group(1).split("\n") : new String[0]) {
            Matcher call = CALL.matcher(line);
            if (call.matches()) {
                CHECK.due(line, answer(x, call.group(1), call.group(2)), Long.parseLong(call.group(3)));
            } else {
                CHECK.holds("a call and what it answers: " + line, line.isEmpty() || line.equals(MADE));
            }
        }
    }

    private static long answer(LoopBoard x, String name, String numbers) throws ReflectiveOperationException {
        String[] texts = numbers.isEmpty() ? new String[0] : numbers.split(", ");
        Method method = named(name);
        CHECK.due("numbers of " + name, texts.length, method.getParameterCount());
        Object[] values = new Object[texts.length];
        for (int i = 0; i < texts.length; i++) {
            boolean isTruth = method.getParameterTypes()[i] == boolean.class;
            values[i] = isTruth ? (Object) Boolean.valueOf(texts[i]) : (Object) Integer.valueOf(texts[i]);
        }
        return ((Number) method.invoke(x, values)).longValue();
    }

    private static Method named(String name) throws NoSuchMethodException {
        for (Method method : LoopBoard.class.getDeclaredMethods()) {
            if (method.getName().equals(name) && Modifier.isPublic(method.getModifiers())) {
                return method;
            }
        }
        throw new NoSuchMethodException(name);
    }

    private static void allCallsNamed(String text) {
        for (Method method : LoopBoard.class.getDeclaredMethods()) {
            if (Modifier.isPublic(method.getModifiers())) {
                CHECK.holds(method.getName() + " is named", text.contains("| `" + method.getName() + "("));
            }
        }
    }
}
