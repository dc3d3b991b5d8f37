import java.io.IOException;
import java.lang.reflect.InvocationTargetException;
import java.lang.reflect.Method;
import java.nio.file.Files;
import java.nio.file.Path;
import java.util.TreeSet;
import java.util.regex.Matcher;
import java.util.regex.Pattern;

/** The calls that README.md shows, in their order on one object, answer what stands behind them there. */
public final class ReadmeTest {
    private static final Pattern CALL =
        Pattern.compile("watch\\.(\\w+)\\(([-0-9, ]*)\\);\\s*// (throws \\w+|\\w+|-\\d+)\\b.*");

    public static void main(String[] args) throws IOException {
        CoastWatch watch = new CoastWatch();
        TreeSet<String> shown = new TreeSet<>();
        for (String line : Files.readAllLines(Path.of("README.md"))) {
            if (!line.startsWith("watch.")) {
                continue;
            }
            Matcher call = CALL.matcher(line);
            if (!call.matches()) {
                is(line + " can be read", "no", "yes");
                continue;
            }
            shown.add(call.group(1));
            is(line, answer(watch, call.group(1), numbers(call.group(2))), call.group(3));
        }
        for (Method m : CoastWatch.class.getMethods()) {
            if (m.getDeclaringClass() == CoastWatch.class) {
                Due.is("README.md shows " + m.getName(), shown.contains(m.getName()), true);
            }
        }
        Due.end();
    }

    private static void is(String line, String got, String want) {
        Due.is(line + " gave " + got + ";", got.equals(want), true);
    }

    private static Object[] numbers(String text) {
        String[] parts = text.split(", ");
        Object[] numbers = new Object[parts.length];
        for (int i = 0; i < parts.length; i++) {
            numbers[i] = Integer.valueOf(parts[i]);
        }
        return numbers;
    }

    private static String answer(CoastWatch watch, String name, Object[] numbers) {
        for (Method m : CoastWatch.class.getMethods()) {
            if (m.getName().equals(name) && m.getParameterCount() == numbers.length) {
                try {
                    return String.valueOf(m.invoke(watch, numbers));
                } catch (InvocationTargetException e) {
                    return "throws " + e.getCause().getClass().getSimpleName();
                } catch (IllegalAccessException e) {
                    return "not public";
                }
            }
        }
        return "no such call";
    }
}
