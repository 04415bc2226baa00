import java.io.IOException;
import java.lang.reflect.Method;
import java.nio.file.Files;
import java.util.Set;
import java.util.TreeSet;
import java.util.regex.Matcher;
import java.util.regex.Pattern;

/** The calls that README.md shows answer as it says there, one after the other on one object, and it shows every method. */
public final class ReadmeTest {
    private static final Pattern TEXT = Pattern.compile("write\\(x, \"(.*)\"\\);");
    private static final Pattern CALL = Pattern.compile("x\\.(\\w+)\\((.*)\\); +// (-?\\w+)\\b.*");

    public static void main(String[] args) throws IOException {
        CarryUp x = new CarryUp();
        Set<String> shown = new TreeSet<>();
        for (String line : Files.readAllLines(Source.project(args).resolve("README.md"))) {
            Matcher text = TEXT.matcher(line), call = CALL.matcher(line);
            if (text.matches()) {
                Check.write(x, text.group(1));
            } else if (call.matches()) {
                Check.due(line, answer(x, call.group(1), call.group(2)), number(call.group(3)));
                shown.add(call.group(1));
            } else {
                Check.yes("a call without its answer: " + line, !line.startsWith("x."));
            }
        }
        for (Method m : CarryUp.class.getMethods()) {
            if (m.getDeclaringClass() == CarryUp.class) Check.yes("README shows " + m.getName(), shown.contains(m.getName()));
        }
        Check.end();
    }

    private static long answer(CarryUp x, String name, String told) {
        String[] numbers = told.isEmpty() ? new String[0] : told.split(", ");
        for (Method m : CarryUp.class.getMethods()) {
            Class<?>[] types = m.getParameterTypes();
            if (!m.getName().equals(name) || types.length != numbers.length) continue;
            Object[] arguments = new Object[types.length];
            for (int i = 0; i < types.length; i++) arguments[i] = types[i] == long.class ? (Object) number(numbers[i]) : (Object) (int) number(numbers[i]);
            return asked(m, x, arguments);
        }
        throw new IllegalStateException("README shows a call that is none: " + name + "(" + told + ")");
    }

    private static long asked(Method m, CarryUp x, Object[] arguments) {
        try {
            return ((Number) m.invoke(x, arguments)).longValue();
        } catch (ReflectiveOperationException e) {
            throw new IllegalStateException(m.getName(), e);
        }
    }

    /** A number, or one of the class's constants by its name. */
    private static long number(String told) {
        if (told.matches("-?[0-9].*")) return Long.decode(told);
        try {
            return ((Number) CarryUp.class.getField(told).get(null)).longValue();
        } catch (ReflectiveOperationException e) {
            throw new IllegalStateException("no such constant: " + told, e);
        }
    }
}
