import java.io.IOException;
import java.lang.reflect.InvocationTargetException;
import java.lang.reflect.Method;
import java.nio.file.Files;
import java.nio.file.Path;
import java.util.regex.Matcher;
import java.util.regex.Pattern;

/** Makes the calls of README.md's example, one after the other, and holds them against what stands beside them. */
final class ReadmeTest {
    private static final Pattern CALL = Pattern.compile("x\\.(\\w+)\\(([^)]*)\\); +// (-?\\d+):.*");
    private static final int FEWEST_CALLS = 20;

    private ReadmeTest() {
    }

    static void runAll(Checks checks) throws IOException {
        checks.begin("README");
        NineDebts x = new NineDebts();
        int calls = 0;
        for (String line : Files.readAllLines(Path.of("README.md"))) {
            Matcher m = CALL.matcher(line);
            if (m.matches()) {
                checks.same(line, Long.parseLong(m.group(3)), answer(x, m.group(1), m.group(2)));
                calls++;
            } else {
                checks.yes("a call with its answer: " + line, !line.startsWith("x."));
            }
        }
        checks.yes("an example", calls >= FEWEST_CALLS);
    }

    private static long answer(NineDebts x, String name, String arguments) {
        String[] told = arguments.isEmpty() ? new String[0] : arguments.split(", *");
        for (Method m : NineDebts.class.getDeclaredMethods()) {
            if (m.getName().equals(name)) {
                return call(x, m, told);
            }
        }
        throw new IllegalArgumentException("no call of the name " + name);
    }

    private static long call(NineDebts x, Method m, String[] told) {
        Object[] numbers = new Object[told.length];
        for (int k = 0; k < told.length; k++) {
            long v = Long.decode(told[k]);
            if (m.getParameterTypes()[k] == long.class) {
                numbers[k] = v;
            } else {
                numbers[k] = (int) v;
            }
        }
        try {
            return ((Number) m.invoke(x, numbers)).longValue();
        } catch (IllegalAccessException | InvocationTargetException e) {
            throw new IllegalArgumentException(m.getName(), e);
        }
    }
}
