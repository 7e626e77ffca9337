import java.io.IOException;
import java.lang.reflect.InvocationTargetException;
import java.lang.reflect.Method;
import java.nio.file.Files;
import java.nio.file.Path;
import java.util.HashMap;
import java.util.List;
import java.util.Map;
import java.util.regex.Matcher;
import java.util.regex.Pattern;

/** The calls that README.md shows answer as it says: each line's answer stands behind its //. */
public final class ReadmeTest {
    private static final Pattern CALL =
        Pattern.compile("(?:int (\\w+) = )?coats\\.(\\w+)\\((.*?)\\); +// (-?\\d+)(?:: .*)?");
    private static final Map<String, Object> NAMES = new HashMap<>();
    private static MeanCoats coats = null;
    private static int calls = 0;

    private static Object argument(String told) {
        if (told.equals("true") || told.equals("false")) return told.equals("true");
        return NAMES.containsKey(told) ? NAMES.get(told) : Integer.decode(told);
    }

    private static Object answer(String name, String arguments) {
        Object[] values = arguments.isEmpty() ? new Object[0]
            : Pattern.compile(", ").splitAsStream(arguments).map(ReadmeTest::argument).toArray();
        for (Method method : MeanCoats.class.getMethods()) {
            if (!method.getName().equals(name) || method.getDeclaringClass() != MeanCoats.class) continue;
            try {
                return method.invoke(coats, values);
            } catch (IllegalAccessException | InvocationTargetException e) {
                return e;
            }
        }
        return "no such act";
    }

    private static void call(String line) {
        if (line.equals("MeanCoats coats = new MeanCoats();")) {
            coats = new MeanCoats();
            NAMES.clear();
            return;
        }
        Matcher matcher = CALL.matcher(line);
        Towns.due("a call with its answer: " + line, matcher.matches() ? 1 : 0, 1);
        if (!matcher.matches()) return;
        Object got = answer(matcher.group(2), matcher.group(3));
        Towns.due(line, got instanceof Integer v ? v : Long.MIN_VALUE, Long.parseLong(matcher.group(4)));
        if (matcher.group(1) != null) NAMES.put(matcher.group(1), got);
        calls++;
    }

    public static void main(String[] args) throws IOException {
        List<String> lines = Files.readAllLines(Path.of(System.getProperty("readme", "README.md")));
        boolean isCode = false;
        for (String line : lines) {
            if (line.startsWith("```")) {
                isCode = line.equals("```java");
            } else if (isCode) {
                call(line);
            }
        }
        Towns.due("calls are shown", calls > 0 ? 1 : 0, 1);
        Towns.end();
    }
}
