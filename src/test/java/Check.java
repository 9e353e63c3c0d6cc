import java.util.NoSuchElementException;
import java.util.function.Consumer;
import java.util.function.Supplier;

/** What the tests share: compared answers, expected exceptions, and solvers made from a text. */
final class Check {
    static final String INDEX = "IndexOutOfBoundsException";
    static final String ARGUMENT = "IllegalArgumentException";
    static final String STATE = "IllegalStateException";
    static final String ELEMENT = "NoSuchElementException";
    private static int checks = 0;
    private static int wrong = 0;
    private static String current = "";

    /** A call that may throw. */
    interface Call {
        void run();
    }

    private Check() {
    }

    static void is(String what, long got, long due) {
        checks++;
        if (got != due) {
            complain(what + " answered " + got + ", due is " + due);
        }
    }

    static void is(String what, double got, double due) {
        checks++;
        if (got != due) {
            complain(what + " answered " + got + ", due is " + due);
        }
    }

    static void is(String what, boolean got, boolean due) {
        is(what, got ? 1 : 0, due ? 1 : 0);
    }

    static void same(String what, Object got, Object due) {
        checks++;
        if (!due.equals(got)) {
            complain(what + " answered " + got + ", due is " + due);
        }
    }

    static void isThrown(String what, String due, Call call) {
        same(what, thrown(call), due);
    }

    /** The plain name of the exception that a call throws, or "nothing". */
    static String thrown(Call call) {
        try {
            call.run();
            return "nothing";
        } catch (IllegalStateException | IllegalArgumentException | IndexOutOfBoundsException
                | NoSuchElementException e) {
            return e.getClass().getSimpleName();
        }
    }

    static void complain(String line) {
        wrong++;
        System.out.println(current + line);
    }

    /** Puts the name of a case before the lines that complain. */
    static void begin(String name) {
        current = name + ": ";
    }

    static int checks() {
        return checks;
    }

    /** A call must throw, and what the object shows after it must be what a like object shows without the call. */
    static void refused(String due, Supplier<SupportSolver> made, Consumer<SupportSolver> call) {
        SupportSolver solver = made.get();
        isThrown("a refused call", due, () -> call.accept(solver));
        same("all that is shown after a refused call", Shown.all(solver), Shown.all(made.get()));
    }

    /** Ends a test: with exit code 1 if an answer was wrong. */
    static void end() {
        System.out.println(checks + " checks, " + wrong + " wrong");
        if (wrong != 0) {
            System.exit(1);
        }
    }

    /** Puts a text into the text buffer, which must be empty. */
    static void put(SupportSolver solver, String text) {
        byte[] bytes = new byte[(text.length() + 19) / 20 * 20];
        for (int i = 0; i < text.length(); i++) {
            bytes[i] = (byte) text.charAt(i);
        }
        for (int i = 0; i < bytes.length; i += 20) {
            solver.append(word(bytes, i), word(bytes, i + 4), word(bytes, i + 8), word(bytes, i + 12),
                    word(bytes, i + 16));
        }
        solver.truncate(text.length());
    }

    private static int word(byte[] bytes, int at) {
        return bytes[at] << 24 | (bytes[at + 1] & 255) << 16 | (bytes[at + 2] & 255) << 8 | bytes[at + 3] & 255;
    }

    /** A solver with this problem. */
    static SupportSolver solver(String text) {
        SupportSolver solver = new SupportSolver();
        put(solver, text);
        solver.load();
        return solver;
    }
}
