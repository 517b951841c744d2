import java.io.IOException;
import java.lang.reflect.InvocationTargetException;
import java.lang.reflect.Method;
import java.nio.file.Files;
import java.nio.file.Path;
import java.util.regex.Matcher;
import java.util.regex.Pattern;

/** The calls that README.md shows answer what it says behind them. */
public final class ReadmeTest {
    private static final Checks CHECKS = new Checks();
    private static final String NEW_ROW = "TokenRow row = new TokenRow();";
    private static final Pattern CALL =
        Pattern.compile("row\\.(\\w+)\\((.*)\\); +// (-?\\d+|true|false|throws \\w+)(:.*)?");

    public static void main(String[] args) throws IOException, ReflectiveOperationException {
        TokenRow row = null;
        int calls = 0;
        for (String line : Files.readAllLines(Path.of("README.md"))) {
            Matcher call = CALL.matcher(line);
            if (line.equals(NEW_ROW)) {
                row = new TokenRow();
            } else if (call.matches()) {
                CHECKS.due(line, answer(row, call.group(1), call.group(2)), call.group(3));
                calls++;
            } else if (line.startsWith("row.") && line.contains("//")) {
                CHECKS.fail("not understood: " + line);
            }
        }
        CHECKS.due("how many calls README.md shows", calls, 24);
        CHECKS.finish();
    }

    private static String answer(TokenRow row, String name, String values) throws ReflectiveOperationException {
        String[] written = values.isEmpty() ? new String[0] : values.split(", ");
        Object[] arguments = new Object[written.length];
        for (int i = 0; i < written.length; i++) {
            arguments[i] = Integer.decode(written[i]);
        }
        try {
            return String.valueOf(method(name).invoke(row, arguments));
        } catch (InvocationTargetException e) {
            return "throws " + e.getCause().getClass().getSimpleName();
        }
    }

    private static Method method(String name) throws NoSuchMethodException {
        for (Method method : TokenRow.class.getMethods()) {
            if (method.getName().equals(name)) {
                return method;
            }
        }
        throw new NoSuchMethodException(name);
    }
}
