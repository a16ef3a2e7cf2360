import java.io.IOException;
import java.lang.reflect.Method;
import java.lang.reflect.Modifier;
import java.nio.file.Files;
import java.nio.file.Path;
import java.util.HashMap;
import java.util.Map;
import java.util.regex.Matcher;
import java.util.regex.Pattern;

/** README.md tells what holds: its example is run line by line, and no call and no refusal is left out. */
public final class ReadmeTest {
    private static final Pattern CALL = Pattern.compile("(?:int (\\w+) = )?x\\.(\\w+)\\((.*?)\\);\\s*// (-?\\d+)\\b.*");
    private static final int[] REFUSALS = {-1, -2, -3, -4, -11, -12, -13, -31, -32, -33, -34, -35, -36, -37, -38, -39};

    private final Edits13 x = new Edits13();
    private final Map<String, Integer> named = new HashMap<>();

    private static Method call(String name) {
        for (Method m : Edits13.class.getDeclaredMethods()) {
            if (Modifier.isPublic(m.getModifiers()) && m.getName().equals(name)) {
                return m;
            }
        }
        throw new IllegalStateException("README.md: no such call: " + name);
    }

    private Object argument(String written, Class<?> type) {
        if (type == boolean.class) {
            return Boolean.valueOf(written);
        }
        if (type == long.class) {
            return Long.valueOf(written.replace("L", ""));
        }
        if (written.equals("Edits13.NONE")) {
            return Edits13.NONE;
        }
        return named.containsKey(written) ? named.get(written) : Integer.valueOf(written);
    }

    private long answer(String name, String written) throws ReflectiveOperationException {
        Method m = call(name);
        Class<?>[] types = m.getParameterTypes();
        String[] parts = written.isEmpty() ? new String[0] : written.split(", ");
        Object[] all = new Object[types.length];
        for (int i = 0; i < types.length; i++) {
            all[i] = argument(parts[i], types[i]);
        }
        return ((Number) m.invoke(x, all)).longValue();
    }

    /** How many lines of the example there are. */
    private int runExample(String readme) throws ReflectiveOperationException {
        int from = readme.indexOf("```java\n") + 8;
        String[] lines = readme.substring(from, readme.indexOf("```", from)).split("\n");
        Due.same("README.md: the example begins with a new object",
            lines[0].equals("Edits13 x = new Edits13();") ? 1 : 0, 1);
        for (int i = 1; i < lines.length; i++) {
            Matcher line = CALL.matcher(lines[i]);
            Due.same("README.md: can it be read: " + lines[i], line.matches() ? 1 : 0, 1);
            if (line.matches()) {
                long got = answer(line.group(2), line.group(3));
                Due.same("README.md: " + lines[i], got, Long.parseLong(line.group(4)));
                named.put(String.valueOf(line.group(1)), (int) got);
            }
        }
        return lines.length;
    }

    private static void everyCallIsTold(String readme) {
        for (Method m : Edits13.class.getDeclaredMethods()) {
            if (Modifier.isPublic(m.getModifiers())) {
                Matcher told = Pattern.compile("`" + m.getName() + "\\(([^)]*)\\)`").matcher(readme);
                boolean found = told.find();
                Due.same("README.md: is it told: " + m.getName(), found ? 1 : 0, 1);
                int numbers = !found || told.group(1).isEmpty() ? 0 : told.group(1).split(", ").length;
                Due.same("README.md: how many numbers are told of " + m.getName(), numbers, m.getParameterCount());
            }
        }
    }

    private static void everyRefusalIsTold(String readme) {
        String refusals = readme.substring(Math.max(0, readme.indexOf("### Refusals")));
        for (int refusal : REFUSALS) {
            boolean found = Pattern.compile("(?<!\\d)" + refusal + "(?!\\d)").matcher(refusals).find();
            Due.same("README.md: is it told: " + refusal, found ? 1 : 0, 1);
        }
    }

    public static void main(String[] args) throws IOException, ReflectiveOperationException {
        String readme = Files.readString(Path.of("README.md"));
        int lines = new ReadmeTest().runExample(readme);
        Due.same("README.md: the example has some lines", lines > 10 ? 1 : 0, 1);
        everyCallIsTold(readme);
        everyRefusalIsTold(readme);
        Due.end();
    }
}
