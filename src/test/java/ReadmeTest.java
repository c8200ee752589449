import java.io.IOException;
import java.lang.reflect.Method;
import java.lang.reflect.Modifier;
import java.nio.file.Files;
import java.nio.file.Path;
import java.util.List;
import java.util.Set;
import java.util.TreeSet;
import java.util.regex.Matcher;
import java.util.regex.Pattern;

/** README.md tells the truth: its example answers what stands behind each call, and its table names every call. */
public final class ReadmeTest {
    private static final Pattern CALL = Pattern.compile("s\\.(\\w+)\\(([-0-9, ]*)\\);\\s*// (-?\\d+)(:.*)?");
    private static final Pattern ROW = Pattern.compile("\\| `(\\w+)\\((.*)\\)` \\|.*");

    public static void main(String[] args) throws IOException, ReflectiveOperationException {
        List<String> lines = Files.readAllLines(Path.of("README.md"));
        exampleAnswersAsTold(lines);
        tableNamesEveryCall(lines);
        Due.end();
    }

    private static void exampleAnswersAsTold(List<String> lines) throws ReflectiveOperationException {
        StratifiedRules s = new StratifiedRules();
        int written = 0;
        int run = 0;
        for (String line : lines) {
            if (line.startsWith("s.")) {
                written++;
            }
            Matcher call = CALL.matcher(line);
            if (call.matches()) {
                run++;
                Due.due(line, answer(s, call.group(1), call.group(2)), Long.parseLong(call.group(3)));
            }
        }
        Due.due("calls of the example that could be read", run, written);
        Due.due("there is an example", run > 0 ? 1 : 0, 1);
    }

    private static int answer(StratifiedRules s, String name, String list) throws ReflectiveOperationException {
        String[] words = list.isEmpty() ? new String[0] : list.split(", ");
        Object[] values = new Object[words.length];
        Class<?>[] types = new Class<?>[words.length];
        for (int i = 0; i < words.length; i++) {
            values[i] = Integer.valueOf(words[i]);
            types[i] = int.class;
        }
        return (Integer) StratifiedRules.class.getMethod(name, types).invoke(s, values);
    }

    private static void tableNamesEveryCall(List<String> lines) {
        Set<String> told = new TreeSet<>();
        for (String line : lines) {
            Matcher row = ROW.matcher(line);
            if (row.matches()) {
                int parameters = row.group(2).isEmpty() ? 0 : row.group(2).split(", ").length;
                told.add(row.group(1) + "/" + parameters);
            }
        }
        Set<String> calls = new TreeSet<>();
        for (Method method : StratifiedRules.class.getDeclaredMethods()) {
            if (Modifier.isPublic(method.getModifiers())) {
                calls.add(method.getName() + "/" + method.getParameterCount());
            }
        }
        Due.due("table has " + told + ", class has " + calls, told.equals(calls) ? 1 : 0, 1);
    }
}
