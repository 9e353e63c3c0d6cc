import java.io.IOException;
import java.lang.reflect.InvocationTargetException;
import java.lang.reflect.Method;
import java.nio.file.Files;
import java.nio.file.Path;
import java.util.List;
import java.util.regex.Matcher;
import java.util.regex.Pattern;

/** Makes the calls of README.md's examples and compares the answers with those that stand behind them. */
public final class ReadmeTest {
    private static final String NEW = "SupportSolver solver = new SupportSolver();";
    private static final Pattern PUT = Pattern.compile("put\\(solver, \"([^\"]*)\"\\);");
    private static final Pattern CALL =
            Pattern.compile("solver\\.(\\w+)\\(([-0-9, ]*)\\); +// (throws \\w+|-?[0-9.]+)(:.*)?");
    private static SupportSolver solver = null;
    private static int calls = 0;

    private ReadmeTest() {
    }

    private static String answer(String name, String told) throws IllegalAccessException {
        String[] parts = told.isEmpty() ? new String[0] : told.split(", ");
        Object[] arguments = new Object[parts.length];
        for (int i = 0; i < parts.length; i++) {
            arguments[i] = Integer.valueOf(parts[i]);
        }
        for (Method method : SupportSolver.class.getMethods()) {
            if (method.getName().equals(name) && method.getParameterCount() == parts.length) {
                try {
                    return String.valueOf(method.invoke(solver, arguments));
                } catch (InvocationTargetException e) {
                    return "throws " + e.getCause().getClass().getSimpleName();
                }
            }
        }
        return "no such call";
    }

    /** A line of an example: a new solver, a text, or a call with its answer. */
    private static void follow(String line) throws IllegalAccessException {
        Matcher put = PUT.matcher(line);
        Matcher call = CALL.matcher(line);
        if (line.equals(NEW)) {
            solver = new SupportSolver();
        } else if (put.matches()) {
            Check.put(solver, put.group(1));
        } else if (call.matches()) {
            calls++;
            Check.same(line, answer(call.group(1), call.group(2)), call.group(3));
        } else {
            Check.same(line, "is not understood", "is understood");
        }
    }

    public static void main(String[] args) throws IOException, IllegalAccessException {
        List<String> lines = Files.readAllLines(Path.of("README.md"));
        boolean isExample = false;
        for (String line : lines) {
            if (line.equals(NEW)) {
                isExample = true;
            } else if (line.equals("```")) {
                isExample = false;
            }
            if (isExample && !line.isEmpty()) {
                follow(line);
            }
        }
        Check.is("there are calls", calls > 30, true);
        Check.end();
    }
}
