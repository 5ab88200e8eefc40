import java.io.IOException;
import java.lang.reflect.InvocationTargetException;
import java.lang.reflect.Method;
import java.nio.file.Files;
import java.nio.file.Path;
import java.util.regex.Matcher;
import java.util.regex.Pattern;

/** The calls in README.md answer what stands behind them there. */
public final class ReadmeTests {
    private static final Pattern CALL = Pattern.compile("x\\.(\\w+)\\(([^)]*)\\);\\s*// (-?\\d+)\\b.*");
    private static final String MAKING = "VcdiffForms x = new VcdiffForms();";
    private static final int CALLS_LEAST = 40;

    private ReadmeTests() {
    }

    public static void main(String[] args) throws IOException, ReflectiveOperationException {
        VcdiffForms x = null;
        boolean inCode = false;
        int calls = 0;
        int number = 0;
        for (String line : Files.readAllLines(Path.of("README.md"))) {
            number++;
            if (line.startsWith("```")) {
                inCode = line.equals("```java");
            } else if (inCode && line.equals(MAKING)) {
                x = new VcdiffForms();
            } else if (inCode) {
                Matcher call = CALL.matcher(line);
                boolean read = x != null && call.matches();
                Checks.due("README.md " + number + " is read: " + line, read ? 1 : 0, 1);
                if (read) {
                    calls++;
                    Checks.due("README.md " + number + ": " + line, answer(x, call), Long.parseLong(call.group(3)));
                }
            }
        }
        Checks.due("calls in README.md are enough", calls >= CALLS_LEAST ? 1 : 0, 1);
        Checks.finish();
    }

    private static long answer(VcdiffForms x, Matcher call) throws InvocationTargetException, IllegalAccessException {
        String[] given = call.group(2).isEmpty() ? new String[0] : call.group(2).split(", ");
        Method method = methodOf(call.group(1), given.length);
        Class<?>[] types = method.getParameterTypes();
        Object[] values = new Object[given.length];
        for (int k = 0; k < given.length; k++) {
            long v = Long.decode(given[k].replace("L", ""));
            if (types[k] == long.class) {
                values[k] = v;
            } else {
                values[k] = (int) v;
            }
        }
        return (Integer) method.invoke(x, values);
    }

    private static Method methodOf(String name, int parameters) {
        for (Method method : VcdiffForms.class.getDeclaredMethods()) {
            if (method.getName().equals(name) && method.getParameterCount() == parameters) {
                return method;
            }
        }
        throw new IllegalStateException("README.md names a call that is not in the face: " + name);
    }
}
