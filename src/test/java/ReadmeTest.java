import java.io.IOException;
import java.lang.reflect.InvocationTargetException;
import java.lang.reflect.Method;
import java.nio.file.Files;
import java.nio.file.Path;
import java.util.List;
import java.util.regex.Matcher;
import java.util.regex.Pattern;

/** README.md's calls answer what stands behind them, and its law is a text. */
public final class ReadmeTest {
    private static final Pattern CALL = Pattern.compile("ring\\.(\\w+)\\(([-0-9, ]*)\\); +// (-?\\d+): .*");
    private static final String BEGIN = "RingOfStraw ring = new RingOfStraw();";

    private static long answer(RingOfStraw ring, String name, String numbers) throws IllegalAccessException, InvocationTargetException {
        String[] each = numbers.isBlank() ? new String[0] : numbers.split(", ");
        Object[] arguments = new Object[each.length];
        for (int i = 0; i < each.length; i++) {
            arguments[i] = Integer.valueOf(each[i]);
        }
        for (Method method : RingOfStraw.class.getMethods()) {
            if (method.getName().equals(name) && method.getParameterCount() == each.length) {
                return ((Number) method.invoke(ring, arguments)).longValue();
            }
        }
        throw new IllegalStateException("no call " + name + " of " + each.length);
    }

    public static void main(String[] args) throws IOException, ReflectiveOperationException {
        List<String> lines = Files.readAllLines(Path.of("README.md"));
        RingOfStraw ring = new RingOfStraw();
        int begun = 0;
        int calls = 0;
        for (String line : lines) {
            Matcher call = CALL.matcher(line);
            if (line.equals(BEGIN)) {
                ring = new RingOfStraw();
                begun++;
            } else if (call.matches()) {
                Checks.due(line, answer(ring, call.group(1), call.group(2)), Long.parseLong(call.group(3)));
                calls++;
            } else if (line.startsWith("force ")) {
                Checks.due(line, Checks.read(new RingOfStraw(), line), 1);
                calls++;
            } else {
                Checks.due("a call whose answer isn't told: " + line, !line.startsWith("ring."));
            }
        }
        Checks.due("one example", begun, 1);
        Checks.due("calls of it, here " + calls, calls > 20);
        Checks.end();
    }
}
