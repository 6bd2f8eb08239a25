import java.io.IOException;
import java.lang.reflect.Method;
import java.nio.file.Files;
import java.nio.file.Path;
import java.util.Set;
import java.util.TreeSet;
import java.util.regex.Matcher;
import java.util.regex.Pattern;

/** Makes the calls of README.md's example on one object, in their order: what it tells of each must be so. */
public final class ReadmeTest {
    private static final Pattern CALL = Pattern.compile("town\\.(\\w+)\\((.*?)\\); +// (-?\\d+): .*");
    private static final Set<String> GROUPS = Set.of("write", "town", "house", "hour", "spring", "undo", "after",
        "ties", "dowry", "toShut", "drawn", "goesFrom", "mark", "rows", "ends", "keep", "again");

    public static void main(String[] args) throws ReflectiveOperationException, IOException {
        FurnitureByFlood town = new FurnitureByFlood();
        Set<String> called = new TreeSet<>();
        for (String line : example(Files.readString(Path.of("README.md"))).split("\n")) {
            Matcher m = CALL.matcher(line);
            if (m.matches()) {
                called.add(m.group(1));
                Check.due(line, answer(town, m.group(1), m.group(2)), Long.parseLong(m.group(3)));
            } else {
                Check.holds("a line of the example that is no call with its answer: " + line,
                    line.isBlank() || line.startsWith("//") || line.contains("new FurnitureByFlood()"));
            }
        }
        Check.holds("the example has calls of each kind, not only " + called, called.containsAll(GROUPS));
        Check.end();
    }

    private static String example(String readme) {
        int from = readme.indexOf("```java\n");
        int to = readme.indexOf("```", from + 3);
        return from < 0 || to < 0 ? "" : readme.substring(from + "```java\n".length(), to);
    }

    private static long answer(FurnitureByFlood town, String name, String told) throws ReflectiveOperationException {
        String[] parts = told.isEmpty() ? new String[0] : told.split(", ");
        for (Method method : FurnitureByFlood.class.getMethods()) {
            if (method.getName().equals(name) && method.getParameterCount() == parts.length) {
                Object[] values = new Object[parts.length];
                for (int i = 0; i < parts.length; i++) {
                    values[i] = value(parts[i], method.getParameterTypes()[i]);
                }
                return ((Number) method.invoke(town, values)).longValue();
            }
        }
        return Long.MIN_VALUE;
    }

    private static Object value(String told, Class<?> type) {
        if (type == boolean.class) {
            return Boolean.valueOf(told);
        }
        long number = Long.decode(told.replace("L", ""));
        if (type == long.class) {
            return number;
        }
        return (int) number;
    }
}
