import java.lang.reflect.Method;
import java.lang.reflect.Modifier;
import java.nio.file.Files;
import java.nio.file.Path;
import java.util.regex.Matcher;
import java.util.regex.Pattern;

/** README.md: each call of its example answers what stands behind it, and each call of the face is named. */
public final class ReadmeTest {
    private static final Pattern CALL = Pattern.compile("x\\.(\\w+)\\(([^)]*)\\);\\s*// (-?\\d+|true|false): .*");
    private static final Checks checks = new Checks("ReadmeTest");

    public static void main(String[] args) throws Exception {
        String readme = Files.readString(Path.of(System.getProperty("project", "."), "README.md"));
        example(readme);
        for (Method method : BlindSpots.class.getDeclaredMethods()) {
            if (Modifier.isPublic(method.getModifiers())) {
                checks.yes("README.md names " + method.getName(), readme.contains("`" + method.getName() + "`"));
            }
        }
        checks.end();
    }

    private static void example(String readme) throws Exception {
        BlindSpots x = new BlindSpots();
        int calls = 0;
        for (String line : readme.lines().toList()) {
            if (line.startsWith("x.")) {
                Matcher call = CALL.matcher(line);
                checks.yes("a call and its answer: " + line, call.matches());
                Object got = answer(x, call.group(1), call.group(2));
                checks.yes(line + " answered " + got, got.toString().equals(call.group(3)));
                calls++;
            }
        }
        checks.yes("there is an example", calls > 0);
    }

    /** All calls of the example take numbers of the type int. */
    private static Object answer(BlindSpots x, String name, String written) throws Exception {
        String[] parts = written.isEmpty() ? new String[0] : written.split(", ");
        Class<?>[] types = new Class<?>[parts.length];
        Object[] numbers = new Object[parts.length];
        for (int k = 0; k < parts.length; k++) {
            types[k] = int.class;
            numbers[k] = Long.decode(parts[k]).intValue();
        }
        return BlindSpots.class.getMethod(name, types).invoke(x, numbers);
    }
}
