import java.io.IOException;
import java.lang.reflect.InvocationTargetException;
import java.lang.reflect.Method;
import java.nio.file.Files;
import java.nio.file.Path;
import java.util.regex.Matcher;
import java.util.regex.Pattern;

/** Does the calls of README.md, one behind the other on one plate, and compares the answers that it tells of them. */
public final class ReadmeTest {
    private static final Pattern CALL = Pattern.compile("plate\\.(\\w+)\\((.*?)\\); *// (throws \\w+|-?\\d+):.*");

    private ReadmeTest() {
    }

    public static void main(String[] args) throws IOException {
        CurvedNames plate = new CurvedNames();
        int calls = 0;
        for (String line : Files.readAllLines(Path.of("README.md"))) {
            Matcher call = CALL.matcher(line);
            if (call.matches()) {
                Checks.due(line, call.group(3), answer(plate, call.group(1), call.group(2)));
                calls++;
            } else {
                Checks.due(line + " is a call with its answer", false, line.startsWith("plate."));
            }
        }
        Checks.due("there are calls", true, calls > 20);
        Checks.end();
    }

    private static String answer(CurvedNames plate, String name, String given) {
        String[] words = given.isEmpty() ? new String[0] : given.split(", ");
        Object[] numbers = new Object[words.length];
        for (int i = 0; i < words.length; i++) {
            numbers[i] = Integer.decode(words[i]);
        }
        try {
            return String.valueOf(method(name).invoke(plate, numbers));
        } catch (InvocationTargetException e) {
            return "throws " + e.getCause().getClass().getSimpleName();
        } catch (IllegalAccessException e) {
            throw new IllegalStateException(e);
        }
    }

    private static Method method(String name) {
        for (Method m : CurvedNames.class.getMethods()) {
            if (m.getName().equals(name)) {
                return m;
            }
        }
        throw new IllegalStateException("README.md calls " + name);
    }
}
