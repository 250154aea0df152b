import java.io.IOException;
import java.lang.reflect.Method;
import java.lang.reflect.Modifier;
import java.nio.file.Files;
import java.nio.file.Path;
import java.util.List;
import java.util.Map;
import java.util.TreeMap;
import java.util.regex.Matcher;
import java.util.regex.Pattern;

/** What README.md tells of the class is so: its examples, and its table of the calls. */
public final class ReadmeTest {
    private static final Pattern EXAMPLE =
            Pattern.compile("x\\.(\\w+)\\(([^)]*)\\);\\s+// (true|false|NONE|\\d+)(:.*)?");
    private static final Pattern ROW =
            Pattern.compile("\\| `(\\w+)\\(([^)]*)\\)` \\|[^|]*\\| (true|false|NONE|\\d+)? ?\\|[^|]*\\|");

    private final Map<String, Method> calls = new TreeMap<>();
    private final List<String> lines;

    private ReadmeTest(List<String> lines) {
        this.lines = lines;
        for (Method method : SortedSolver.class.getDeclaredMethods()) {
            if (Modifier.isPublic(method.getModifiers())) {
                calls.put(method.getName(), method);
            }
        }
    }

    public static void main(String[] args) throws IOException, ReflectiveOperationException {
        // .ci/run runs every test in the project's folder.
        ReadmeTest test = new ReadmeTest(Files.readAllLines(Path.of("README.md")));
        test.examples();
        test.tableOfCalls();
        Check.end();
    }

    private void examples() throws ReflectiveOperationException {
        SortedSolver x = new SortedSolver();
        int count = 0;
        for (String line : lines) {
            if (line.startsWith("x.")) {
                Matcher example = EXAMPLE.matcher(line);
                Check.due("is an example with its answer: " + line, example.matches(), true);
                if (example.matches()) {
                    Object[] arguments = arguments(example.group(2));
                    dueAnswer(line, answer(x, example.group(1), arguments), example.group(3));
                    count++;
                }
            }
        }
        Check.due("README.md has examples", count > 0, true);
    }

    /** A row for each call, with its arguments and with what it answers when it is refused. */
    private void tableOfCalls() throws ReflectiveOperationException {
        Map<String, Integer> rows = new TreeMap<>();
        for (String line : lines) {
            if (line.startsWith("| `")) {
                Matcher row = ROW.matcher(line);
                Check.due("is a row of the table: " + line, row.matches(), true);
                if (row.matches()) {
                    rows.merge(row.group(1), 1, Integer::sum);
                    refusedRow(line, row.group(1), row.group(2), row.group(3));
                }
            }
        }
        for (String name : calls.keySet()) {
            Check.due("rows of README.md for " + name, rows.getOrDefault(name, 0), 1);
        }
    }

    private void refusedRow(String line, String name, String names, String refused)
            throws ReflectiveOperationException {
        Method method = calls.get(name);
        int due = names.isEmpty() ? 0 : names.split(", ").length;
        Check.due("the class has the call of: " + line, method != null, true);
        if (method == null) {
            return;
        }
        Check.due("arguments of: " + line, method.getParameterCount(), due);
        Check.due("a call with arguments can be refused: " + line, refused != null, due > 0);
        if (refused != null) {
            dueAnswer(line, answer(new SortedSolver(), name, wrongArguments(method)), refused);
        }
    }

    private static Object[] wrongArguments(Method method) {
        Class<?>[] types = method.getParameterTypes();
        Object[] arguments = new Object[types.length];
        for (int i = 0; i < types.length; i++) {
            arguments[i] = types[i] == boolean.class ? (Object) true : (Object) (-1);
        }
        return arguments;
    }

    private static Object[] arguments(String text) {
        String[] parts = text.isEmpty() ? new String[0] : text.split(", ");
        Object[] arguments = new Object[parts.length];
        for (int i = 0; i < parts.length; i++) {
            boolean isTruth = parts[i].equals("true") || parts[i].equals("false");
            arguments[i] = isTruth ? (Object) parts[i].equals("true") : (Object) Integer.valueOf(parts[i]);
        }
        return arguments;
    }

    private String answer(SortedSolver x, String name, Object[] arguments)
            throws ReflectiveOperationException {
        return calls.get(name).invoke(x, arguments).toString();
    }

    /** Compares texts, not numbers: README.md must not say 0 where the answer is false. */
    private static void dueAnswer(String line, String got, String told) {
        String want = told.equals("NONE") ? String.valueOf(SortedSolver.NONE) : told;
        Check.due("the class answers " + got + ", README.md is right: " + line, got.equals(want), true);
    }
}
