import java.lang.reflect.Method;
import java.nio.file.Files;
import java.nio.file.Path;
import java.util.regex.Matcher;
import java.util.regex.Pattern;

/** The example of README.md answers what stands beside its calls, and its list has the whole face. */
public final class ReadmeTest {
    private static final Pattern CALL = Pattern.compile("bench\\.(\\w+)\\(([^)]*)\\);(?: *// (-?\\d+|true)\\b)?.*");
    private static final Checks CHECKS = new Checks();

    public static void main(String[] args) throws ReflectiveOperationException, java.io.IOException {
        CHECKS.sentence("README", "How to use it");
        String text = Files.readString(Path.of("README.md"));
        GuessBench bench = new GuessBench();
        int told = 0;
        for (String line : text.split("\n")) {
            Matcher matcher = CALL.matcher(line);
            if (matcher.matches()) {
                Object got = call(bench, matcher.group(1), matcher.group(2).split(", *"));
                if (matcher.group(3) != null) {
                    told++;
                    CHECKS.due(line, got.toString(), matcher.group(3));
                }
            }
        }
        CHECKS.due("calls with their answers", told >= 10, true);
        for (Method method : GuessBench.class.getDeclaredMethods()) {
            if (java.lang.reflect.Modifier.isPublic(method.getModifiers())) {
                CHECKS.due(method.getName() + " is in the list", text.contains("`" + method.getName() + "("), true);
            }
        }
        CHECKS.end();
    }

    private static Object call(GuessBench bench, String name, String[] given) throws ReflectiveOperationException {
        for (Method method : GuessBench.class.getDeclaredMethods()) {
            if (method.getName().equals(name)) {
                Class<?>[] types = method.getParameterTypes();
                Object[] values = new Object[types.length];
                for (int i = 0; i < types.length; i++) {
                    values[i] = types[i] == boolean.class ? (Object) given[i].equals("true") : Integer.valueOf(given[i]);
                }
                return method.invoke(bench, values);
            }
        }
        throw new NoSuchMethodException(name);
    }
}
