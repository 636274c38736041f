import java.io.IOException;
import java.lang.reflect.Method;
import java.nio.file.Files;
import java.nio.file.Path;
import java.util.regex.Matcher;
import java.util.regex.Pattern;

/** README.md tells how the class is used: the calls that stand there answer what stands behind them. */
public final class ReadmeTest {
    private static final Pattern CALL = Pattern.compile("x\\.(\\w+)\\((.*)\\); +// (-?\\d+)(:.*)?");
    private static final int CALLS_LEAST = 20;

    private ReadmeTest() {
    }

    private static Method method(String name) {
        for (Method method : GrownKinds.class.getMethods()) {
            if (method.getName().equals(name)) {
                return method;
            }
        }
        throw new IllegalStateException("README.md calls " + name + ", and there is none");
    }

    private static long answer(GrownKinds x, String name, String with) throws ReflectiveOperationException {
        Method method = method(name);
        String[] told = with.isEmpty() ? new String[0] : with.split(", ");
        Object[] arguments = new Object[told.length];
        for (int i = 0; i < told.length; i++) {
            boolean isLong = method.getParameterTypes()[i] == long.class;
            arguments[i] = isLong ? (Object) Long.valueOf(told[i]) : (Object) Integer.valueOf(told[i]);
        }
        return ((Number) method.invoke(x, arguments)).longValue();
    }

    public static void main(String[] arguments) throws IOException, ReflectiveOperationException {
        GrownKinds x = new GrownKinds();
        int calls = 0;
        for (String line : Files.readAllLines(Path.of("README.md"))) {
            Matcher call = CALL.matcher(line);
            if (call.matches()) {
                calls++;
                Kit.due(line, answer(x, call.group(1), call.group(2)), Long.parseLong(call.group(3)));
            } else {
                Kit.holds("a call that is not read: " + line, !line.startsWith("x."));
            }
        }
        Kit.holds("README.md has calls", calls >= CALLS_LEAST);
        Kit.finish("ReadmeTest");
    }
}
