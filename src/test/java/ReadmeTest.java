import java.io.IOException;
import java.lang.reflect.InvocationTargetException;
import java.lang.reflect.Method;
import java.nio.file.Files;
import java.nio.file.Path;
import java.util.HashMap;
import java.util.List;
import java.util.Map;
import java.util.TreeSet;
import java.util.regex.Matcher;
import java.util.regex.Pattern;

/** README.md's example answers as it says there, and its tables tell each call of the face. */
public final class ReadmeTest {
    private static final Pattern CALL =
            Pattern.compile("(?:int (\\w+) = )?placer\\.(\\w+)\\((.*?)\\);\\s*// (-?\\d+|true|false)(?::.*)?");
    private static final Pattern TOLD = Pattern.compile("\\| `(\\w+)\\((.*?)\\)` \\|.*");

    public static void main(String[] args) throws IOException, ReflectiveOperationException {
        List<String> lines = Files.readAllLines(Path.of("README.md"));
        example(lines);
        tables(lines);
        Check.end("ReadmeTest");
    }

    private static void example(List<String> lines) throws ReflectiveOperationException {
        CounterPlacer placer = new CounterPlacer();
        Map<String, String> named = new HashMap<>();
        int calls = 0;
        int start = lines.indexOf("```java") + 1;
        for (int i = start; !lines.get(i).equals("```"); i++) {
            String line = lines.get(i);
            if (line.equals("CounterPlacer placer = new CounterPlacer();")) {
                continue;
            }
            Matcher m = CALL.matcher(line);
            Check.due("the form of " + line, m.matches(), true);
            if (m.matches()) {
                String answer = answerOf(placer, m.group(2), m.group(3), named);
                Check.due(line + " - answered " + answer, answer.equals(m.group(4)), true);
                named.put(m.group(1), answer);
                calls++;
            }
        }
        Check.due("calls in the example", calls > 20, true);
    }

    private static String answerOf(CounterPlacer placer, String name, String list, Map<String, String> named)
            throws IllegalAccessException, InvocationTargetException {
        String[] words = list.isEmpty() ? new String[0] : list.split(", ");
        Method method = methodNamed(name);
        Object[] arguments = new Object[words.length];
        for (int i = 0; i < words.length; i++) {
            String word = named.getOrDefault(words[i], words[i]);
            arguments[i] = valueOf(word, method.getParameterTypes()[i]);
        }
        return method.invoke(placer, arguments).toString();
    }

    private static Object valueOf(String word, Class<?> type) {
        if (type == boolean.class) {
            return Boolean.valueOf(word);
        }
        if (type == long.class) {
            return Long.valueOf(word);
        }
        return Integer.valueOf(word);
    }

    private static Method methodNamed(String name) {
        for (Method m : CounterPlacer.class.getMethods()) {
            if (m.getName().equals(name)) {
                return m;
            }
        }
        throw new IllegalArgumentException("no call " + name);
    }

    private static void tables(List<String> lines) {
        TreeSet<String> told = new TreeSet<>();
        for (String line : lines) {
            Matcher m = TOLD.matcher(line);
            if (m.matches()) {
                int parameters = m.group(2).isEmpty() ? 0 : m.group(2).split(", ").length;
                Check.due("parameters of " + m.group(1), parameters, methodNamed(m.group(1)).getParameterCount());
                Check.due(m.group(1) + " is told once", told.add(m.group(1)), true);
            }
        }
        for (Method m : CounterPlacer.class.getMethods()) {
            if (m.getDeclaringClass() == CounterPlacer.class) {
                Check.due(m.getName() + " is told", told.contains(m.getName()), true);
            }
        }
    }
}
