import java.lang.reflect.InvocationTargetException;
import java.lang.reflect.Method;
import java.util.Arrays;
import java.util.Comparator;

/**
 * Runs all cases of the boundary tests. A case is a static method of one of the classes below; its name tells the
 * promise (promise07_..) or the paragraph of the document's "Description" (propagation_..) and the case. With an
 * argument, the cases whose names begin so are run alone.
 */
public final class EdgeCasesTest {
    private static final Class<?>[] CLASSES = {TextEdges.class, GrammarEdges.class, ReportEdges.class,
        SupportEdges.class, SolutionEdges.class, DecisionEdges.class, LearnEdges.class, PropagationEdges.class};
    private static final String[] PARAGRAPHS = {"general_", "theText_", "constraints_", "propagation_", "theTrail_",
        "decisions_", "exceptions_"};
    private static final StringBuilder NAMES = new StringBuilder(" ");

    private EdgeCasesTest() {
    }

    private static void run(Method method) throws IllegalAccessException {
        int before = Check.checks();
        Check.begin(method.getName());
        NAMES.append(method.getName()).append(' ');
        try {
            method.invoke(null);
        } catch (InvocationTargetException e) {
            Check.complain("threw " + e.getCause());
        }
        Check.is("something is checked", Check.checks() > before, true);
    }

    private static void needCase(String beginning) {
        Check.is("there is a case of " + beginning, NAMES.indexOf(" " + beginning) >= 0, true);
    }

    public static void main(String[] args) throws IllegalAccessException {
        String wanted = args.length > 0 ? args[0] : "";
        for (Class<?> cases : CLASSES) {
            Method[] methods = cases.getDeclaredMethods();
            Arrays.sort(methods, Comparator.comparing(Method::getName));
            for (Method method : methods) {
                if (method.getName().matches("[a-zA-Z]+[0-9]*_.*") && method.getName().startsWith(wanted)) {
                    run(method);
                }
            }
        }
        Check.begin("all cases");
        for (int promise = 1; promise <= 32 && wanted.isEmpty(); promise++) {
            needCase(promise < 10 ? "promise0" + promise + "_" : "promise" + promise + "_");
        }
        for (int i = 0; i < PARAGRAPHS.length && wanted.isEmpty(); i++) {
            needCase(PARAGRAPHS[i]);
        }
        System.out.println(NAMES.toString().trim().split(" ").length + " cases");
        Check.end();
    }
}
