import java.io.IOException;
import java.lang.reflect.InvocationTargetException;
import java.lang.reflect.Method;
import java.nio.file.Files;
import java.nio.file.Path;
import java.util.HashMap;
import java.util.List;
import java.util.Map;
import java.util.TreeSet;
import java.util.regex.Matcher;
import java.util.regex.Pattern;

/** Runs the example of README.md as it is written: each call answers what its comment begins with. */
public final class ReadmeTest {
    private static final Pattern CALL =
            Pattern.compile("(?:int (\\w+) = )?x\\.(\\w+)\\((.*)\\); +// ([^:,]+).*");
    private static final String MADE = "SweptBoxes x = new SweptBoxes();";

    private final Map<String, Method> face = new HashMap<>();
    private final Map<String, String> numbers = new HashMap<>();
    private final TreeSet<String> unused = new TreeSet<>();
    private final Due due = new Due();
    private SweptBoxes x;

    public static void main(String[] args) throws IOException {
        ReadmeTest test = new ReadmeTest();
        test.run(example(Files.readAllLines(Path.of("README.md"))));
        test.due.end();
    }

    private ReadmeTest() {
        for (Method m : SweptBoxes.class.getMethods()) {
            if (m.getDeclaringClass() == SweptBoxes.class) {
                face.put(m.getName(), m);
            }
        }
        unused.addAll(face.keySet());
    }

    private static List<String> example(List<String> lines) {
        int first = lines.indexOf("```java") + 1;
        int length = lines.subList(first, lines.size()).indexOf("```");
        return lines.subList(first, first + length);
    }

    private void run(List<String> lines) {
        for (String line : lines) {
            Matcher call = CALL.matcher(line);
            if (line.equals(MADE)) {
                x = new SweptBoxes();
            } else if (call.matches()) {
                String told = answer(call.group(2), call.group(3).split(", "));
                due.yes(line + " | told " + told + "; that this is so", () ->
                        told.equals(call.group(4)));
                numbers.put(call.group(1), told);
            } else {
                due.yes("a line that can't be run: " + line, () ->
                        line.isEmpty() || line.startsWith("// "));
            }
        }
        due.answer("methods that the example leaves out: " + unused, 0, unused::size);
    }

    private String answer(String name, String[] words) {
        unused.remove(name);
        Method m = face.get(name);
        Object[] given = new Object[m.getParameterCount()];
        for (int n = 0; n < given.length; n++) {
            given[n] = read(numbers.getOrDefault(words[n], words[n]), m.getParameterTypes()[n]);
        }
        try {
            Object told = m.invoke(x, given);
            return told == null ? "all as at first" : told.toString();
        } catch (InvocationTargetException e) {
            return e.getCause().getClass().getSimpleName();
        } catch (IllegalAccessException e) {
            return "no access to " + name;
        }
    }

    private static Object read(String word, Class<?> type) {
        if (type == boolean.class) {
            return Boolean.valueOf(word);
        }
        if (type == int.class) {
            return Integer.valueOf(word);
        }
        return Long.valueOf(word);
    }
}
