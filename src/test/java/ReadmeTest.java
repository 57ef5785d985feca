import java.io.IOException;
import java.lang.reflect.InvocationTargetException;
import java.lang.reflect.Method;
import java.nio.charset.StandardCharsets;
import java.nio.file.Files;
import java.nio.file.Path;
import java.util.regex.Matcher;
import java.util.regex.Pattern;

/** What README.md says of the class is so: its calls answer what stands behind them, its texts are texts. */
public final class ReadmeTest {
    private static final Pattern CALL = Pattern.compile("x\\.(\\w+)\\((.*)\\); +// (-?\\w+): .*");
    private static final Pattern TEXT = Pattern.compile("\\| [a-z ]+ \\| ([012]) \\| `([^`]+)`.*\\|");

    private ReadmeTest() {
    }

    public static void main(String[] args) throws IOException, InvocationTargetException, IllegalAccessException {
        String readme = Files.readString(Path.of("README.md"), StandardCharsets.UTF_8);
        int calls = 0;
        int texts = 0;
        TeaTrolley x = new TeaTrolley();
        for (String line : readme.split("\n")) {
            Matcher call = CALL.matcher(line);
            Matcher text = TEXT.matcher(line);
            if (call.matches()) {
                calls++;
                Due.is(line, answer(x, call.group(1), call.group(2)), call.group(3));
            } else if (text.matches()) {
                texts++;
                Due.fault(Integer.parseInt(text.group(1)), text.group(2), TeaTrolley.NONE);
            } else {
                Due.is("a call without its answer: " + line, line.startsWith("x."), false);
            }
        }
        Due.is("calls with their answers", calls >= 10, true);
        Due.is("texts", texts, 3);
        everyCallIsNamed(readme);
        Due.close("ReadmeTest");
    }

    private static void everyCallIsNamed(String readme) {
        for (Method method : TeaTrolley.class.getDeclaredMethods()) {
            if (java.lang.reflect.Modifier.isPublic(method.getModifiers())) {
                Due.is("README.md names " + method, readme.contains("`" + method.getName() + "`"), true);
            }
        }
    }

    private static String answer(TeaTrolley x, String name, String told)
            throws InvocationTargetException, IllegalAccessException {
        String[] words = told.isEmpty() ? new String[0] : told.split(", ");
        for (Method method : TeaTrolley.class.getDeclaredMethods()) {
            if (method.getName().equals(name)) {
                Object[] values = new Object[words.length];
                for (int i = 0; i < words.length; i++) {
                    values[i] = value(words[i], method.getParameterTypes()[i]);
                }
                return String.valueOf(method.invoke(x, values));
            }
        }
        return "no such call";
    }

    private static Object value(String word, Class<?> type) {
        if (type == boolean.class) {
            return Boolean.valueOf(word);
        }
        return type == long.class ? (Object) Long.decode(word) : (Object) Integer.decode(word);
    }
}
