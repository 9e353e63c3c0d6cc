import java.util.function.IntUnaryOperator;

/** What a solver shows of its state, told as texts that can be compared. Each text takes some calls, but few. */
final class Shown {
    private Shown() {
    }

    private static String joined(int number, IntUnaryOperator told) {
        StringBuilder text = new StringBuilder();
        for (int i = 0; i < number; i++) {
            text.append(i == 0 ? "" : " ").append(told.applyAsInt(i));
        }
        return text.toString();
    }

    /** All that report() tells, from 0 to 7. */
    static String reports(SupportSolver solver) {
        return joined(8, solver::report);
    }

    static String domains(SupportSolver solver) {
        return joined(solver.report(0), solver::domain);
    }

    static String decisions(SupportSolver solver) {
        return joined(solver.report(2), solver::decision);
    }

    static String explanation(SupportSolver solver, int index) {
        return joined(solver.explanationSize(index), k -> solver.explained(index, k));
    }

    /** All facts from the given one on: variable, value, ":", reason, "@", level. */
    static String facts(SupportSolver solver, int from) {
        StringBuilder text = new StringBuilder();
        for (int i = from; i < solver.report(3); i++) {
            text.append(i == from ? "" : " ").append(solver.fact(i, 0)).append(solver.fact(i, 1));
            text.append(':').append(solver.fact(i, 2)).append('@').append(solver.fact(i, 3));
        }
        return text.toString();
    }

    static String facts(SupportSolver solver) {
        return facts(solver, 0);
    }

    /** The assignments of a learnt set, up to the first index that is refused. */
    static String set(SupportSolver solver, int set) {
        StringBuilder text = new StringBuilder();
        for (int i = 0; i < 8; i++) {
            int index = i;
            if (!Check.thrown(() -> solver.learnt(set, index)).equals("nothing")) {
                break;
            }
            text.append(i == 0 ? "" : " ").append(solver.learnt(set, i));
        }
        return text.toString();
    }

    static String sets(SupportSolver solver) {
        StringBuilder text = new StringBuilder();
        for (int i = 0; i < solver.report(4); i++) {
            text.append('[').append(set(solver, i)).append(']');
        }
        return text.toString();
    }

    /** The problem and its present state: all but the text buffer and the latest error. */
    static String state(SupportSolver solver) {
        StringBuilder text = new StringBuilder();
        text.append(reports(solver)).append(" | ").append(domains(solver)).append(" | ").append(facts(solver));
        text.append(" | ").append(decisions(solver)).append(" | ").append(sets(solver)).append(" |");
        for (int i = 0; i < solver.report(1); i++) {
            int constraint = i;
            text.append(' ').append(joined(4, what -> solver.constraint(constraint, what)));
            text.append(' ').append(solver.tuples(i));
        }
        text.append(" | ").append(joined(solver.report(3), solver::explanationSize));
        return text.append(" | ").append(solver.solutions()).toString();
    }

    /** All of it; the text in the buffer is loaded for that, so this is the end of the object. */
    static String all(SupportSolver solver) {
        StringBuilder text = new StringBuilder(state(solver));
        text.append(" | error ").append(solver.errorCode()).append(' ').append(solver.errorPosition());
        int length = length(solver);
        text.append(" | buffer ").append(length).append(' ').append(Check.thrown(solver::load));
        text.append(' ').append(solver.errorCode()).append(' ').append(solver.errorPosition());
        return text.append(' ').append(reports(solver)).append(' ').append(domains(solver)).toString();
    }

    /** The length of the text in the buffer, which stays as it is. */
    static int length(SupportSolver solver) {
        int length = 600;
        while (length > 580 && !Check.thrown(new Truncation(solver, length)).equals("nothing")) {
            length--;
        }
        return length > 580 ? length : solver.truncate(solver.append(0, 0, 0, 0, 0) - 20);
    }

    private record Truncation(SupportSolver solver, int length) implements Check.Call {
        @Override
        public void run() {
            solver.truncate(length);
        }
    }
}
