import java.io.IOException;
import java.lang.reflect.Method;
import java.nio.file.Files;
import java.nio.file.Path;
import java.util.regex.Matcher;
import java.util.regex.Pattern;

/** Makes the calls that README.md shows, in their order, and holds the answers to those told behind them. */
public final class ReadmeTest {
    private static final Pattern CALL = Pattern.compile("x\\.(\\w+)\\(([^)]*)\\);\\s*// (-?\\d+|true|false)\\b.*");
    private static final Sheet SHEET = new Sheet();

    private static Method method(String name) throws NoSuchMethodException {
        for (Method method : ContentRules.class.getMethods()) {
            if (method.getName().equals(name)) {
                return method;
            }
        }
        throw new NoSuchMethodException(name);
    }

    private static Object argument(String text) {
        if (text.equals("true") || text.equals("false")) {
            return Boolean.valueOf(text);
        }
        return text.equals("ContentRules.NONE") ? Integer.valueOf(ContentRules.NONE) : Integer.decode(text);
    }

    private static Object[] arguments(String text) {
        if (text.isEmpty()) {
            return new Object[0];
        }
        String[] all = text.split(", ");
        Object[] arguments = new Object[all.length];
        for (int i = 0; i < all.length; i++) {
            arguments[i] = argument(all[i]);
        }
        return arguments;
    }

    public static void main(String[] args) throws IOException, ReflectiveOperationException {
        ContentRules x = new ContentRules();
        int calls = 0;
        for (String line : Files.readAllLines(Path.of("README.md"))) {
            Matcher call = CALL.matcher(line);
            if (call.matches()) {
                calls++;
                Object got = method(call.group(1)).invoke(x, arguments(call.group(2)));
                SHEET.dueText(line, got.toString(), call.group(3));
            } else {
                SHEET.due("told with its answer: " + line, line.startsWith("x."), false);
            }
        }
        SHEET.due("calls are shown", calls > 30, true);
        SHEET.close();
    }
}
