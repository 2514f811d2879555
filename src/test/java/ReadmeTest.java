import java.lang.reflect.Method;
import java.lang.reflect.Modifier;
import java.nio.file.Files;
import java.nio.file.Path;
import java.util.Set;
import java.util.TreeSet;
import java.util.regex.Matcher;
import java.util.regex.Pattern;

/**
 * The calls that README.md shows answer what it says behind them, and each public method is shown.
 * Runs in the project's directory, where .ci/run starts it.
 */
public final class ReadmeTest {
    private static final Pattern CALL = Pattern.compile("marks\\.(\\w+)\\((.*)\\); +// (-?\\w+).*");

    private static int wrong = 0;

    public static void main(String[] args) throws Exception {
        GridIndex marks = new GridIndex();
        Set<String> shown = new TreeSet<>();
        for (String line : Files.readAllLines(Path.of("README.md"))) {
            if (line.startsWith("marks.")) {
                shown.add(check(marks, line));
            }
        }
        for (Method method : GridIndex.class.getDeclaredMethods()) {
            if (Modifier.isPublic(method.getModifiers()) && !shown.contains(method.getName())) {
                fault("no line shows " + method.getName());
            }
        }
        if (wrong > 0) {
            System.exit(1);
        }
    }

    private static void fault(String what) {
        wrong++;
        System.out.println("README.md: " + what);
    }

    /** Makes the call of the line; answers the name of its method. */
    private static String check(GridIndex marks, String line) throws Exception {
        Matcher call = CALL.matcher(line);
        if (!call.matches()) {
            fault("not a call with its answer: " + line);
            return "";
        }
        String name = call.group(1);
        String[] numbers = call.group(2).split(", ");
        Class<?>[] types = new Class<?>[numbers.length];
        Object[] arguments = new Object[numbers.length];
        for (int i = 0; i < numbers.length; i++) {
            types[i] = int.class;
            arguments[i] = Integer.valueOf(numbers[i]);
        }
        String got = String.valueOf(GridIndex.class.getMethod(name, types).invoke(marks, arguments));
        if (!got.equals(call.group(3))) {
            fault("answered " + got + ": " + line);
        }
        return name;
    }
}
