import java.io.IOException;
import java.lang.reflect.InvocationTargetException;
import java.lang.reflect.Method;
import java.nio.file.Files;
import java.nio.file.Path;
import java.util.regex.Matcher;
import java.util.regex.Pattern;

/** Makes the calls of README.md's example, in their order, and looks whether each answers what stands behind it. */
public final class ReadmeTest {
    private static final Due DUE = new Due("ReadmeTest");
    private static final Pattern CALL = Pattern.compile("desk\\.(\\w+)\\(([^)]*)\\); +// (-?\\d+):.*");

    public static void main(String[] args) throws IOException, ReflectiveOperationException {
        DialDesk desk = new DialDesk();
        int made = 0;
        for (String row : Files.readAllLines(Path.of("README.md"))) {
            Matcher call = CALL.matcher(row);
            if (call.matches()) {
                made++;
                DUE.is(row, answer(desk, call.group(1), call.group(2).split(", ")), Long.parseLong(call.group(3)));
            } else {
                DUE.is("not a call with its answer: " + row, row.startsWith("desk.") ? 1 : 0, 0);
            }
        }
        DUE.is("calls are told", Math.min(made, 20), 20);
        DUE.end();
    }

    private static long answer(DialDesk desk, String name, String[] told)
            throws IllegalAccessException, InvocationTargetException {
        for (Method method : DialDesk.class.getMethods()) {
            if (method.getName().equals(name)) {
                Class<?>[] types = method.getParameterTypes();
                Object[] values = new Object[told.length];
                for (int i = 0; i < told.length; i++) {
                    boolean isLong = types[i] == long.class;
                    values[i] = isLong ? (Object) Long.valueOf(told[i]) : (Object) Integer.valueOf(told[i]);
                }
                return ((Number) method.invoke(desk, values)).longValue();
            }
        }
        throw new IllegalArgumentException("no call " + name);
    }
}
