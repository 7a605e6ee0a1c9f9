import java.io.IOException;
import java.lang.reflect.Method;
import java.lang.reflect.Modifier;
import java.nio.file.Files;
import java.nio.file.Path;
import java.util.List;
import java.util.regex.Matcher;
import java.util.regex.Pattern;

/** What README.md shows is true: each call of its example answers what is written beside it. */
public final class ReadmeTest {
    private static final Pattern CALL = Pattern.compile("w\\.(\\w+)\\(([-0-9, ]*)\\); *// (-?\\d+): .*");

    private static final Checks checks = new Checks();

    public static void main(String[] args) throws IOException, ReflectiveOperationException {
        List<String> lines = Files.readAllLines(Path.of("README.md"));
        example(lines);
        table(lines);
        checks.end();
    }

    private static void example(List<String> lines) throws ReflectiveOperationException {
        StreamWatcher watcher = new StreamWatcher();
        int calls = 0;
        for (String line : lines) {
            if (line.startsWith("w.")) {
                Matcher call = CALL.matcher(line);
                checks.holds("a call with its answer: " + line, call.matches());
                if (call.matches()) {
                    checks.due(line, answer(watcher, call.group(1), call.group(2)), Long.parseLong(call.group(3)));
                    calls++;
                }
            }
        }
        checks.holds("the example has calls", calls > 0);
    }

    private static int answer(StreamWatcher watcher, String name, String list) throws ReflectiveOperationException {
        String[] words = list.isBlank() ? new String[0] : list.split(", ");
        Object[] arguments = new Object[words.length];
        Class<?>[] types = new Class<?>[words.length];
        for (int i = 0; i < words.length; i++) {
            arguments[i] = Integer.valueOf(words[i]);
            types[i] = int.class;
        }
        return (Integer) StreamWatcher.class.getMethod(name, types).invoke(watcher, arguments);
    }

    private static void table(List<String> lines) {
        for (Method method : StreamWatcher.class.getDeclaredMethods()) {
            if (Modifier.isPublic(method.getModifiers())) {
                String row = "| `" + method.getName() + "(";
                checks.holds("the table has " + method.getName(), lines.stream().anyMatch(line -> line.startsWith(row)));
            }
        }
    }
}
