import java.util.function.Supplier;

/** The boundary cases of promises 20 to 23: what is told of all solutions. */
final class SolutionEdges {
    private static final int[] FAR = {Integer.MIN_VALUE, -2, -1, Integer.MAX_VALUE};
    private static final String COLOURS = "var a 0 2;var b 0 2;var c 0 2;differ a b;differ b c;differ a c;";
    /** No solution, but propagation does not see it. */
    private static final String TRIANGLE = "var a 0 1;var b 0 1;var c 0 1;differ a b;differ b c;differ a c;";
    private static final String FAILED = "var a 1 1;var b 1 1;var c 0 4;less a b;";
    /** a is 2 in all solutions, which propagation overlooks. */
    private static final String PIGEONS = "var a 0 2;var b 0 1;var c 0 1;differ a b;differ b c;differ a c;";

    private SolutionEdges() {
    }

    private static Supplier<SupportSolver> of(String text) {
        return () -> Check.solver(text);
    }

    private static String firsts(SupportSolver solver) {
        StringBuilder text = new StringBuilder();
        for (int variable = 0; variable < solver.report(0); variable++) {
            text.append(solver.first(variable));
        }
        return text.toString();
    }

    private static String possible(SupportSolver solver) {
        StringBuilder text = new StringBuilder();
        for (int variable = 0; variable < solver.report(0); variable++) {
            text.append(variable == 0 ? "" : " ").append(solver.possible(variable));
        }
        return text.toString();
    }

    // ---- promise 20

    static void promise20_oneWithoutVariables() {
        Check.is("a new object", new SupportSolver().solutions(), 1);
        Check.is("the empty text", Check.solver("").solutions(), 1);
    }

    static void promise20_noneAndOneAndAll() {
        Check.is("none", Check.solver(TRIANGLE).solutions(), 0);
        Check.is("one", Check.solver("var a 3 3;").solutions(), 1);
        Check.is("one that is bound", Check.solver("var a 0 1;var b 0 1;less a b;").solutions(), 1);
        Check.is("all", Check.solver(ReportEdges.free(4)).solutions(), 78125);
        Check.is("all but one", Check.solver(ReportEdges.free(4) + "counts g f e d c b a value 4 0 6;").solutions(),
                78124);
    }

    static void promise20_noneAfterAFailure() {
        Check.is("failed at once", Check.solver(FAILED).solutions(), 0);
        SupportSolver solver = Check.solver("var a 0 4;");
        for (int value = 0; value <= 4; value++) {
            Check.is("solutions", solver.solutions(), 5 - value);
            solver.forbid(0, value);
        }
        Check.is("the last value is forbidden", solver.solutions(), 0);
    }

    static void promise20_ofThePresentDomains() {
        SupportSolver solver = Check.solver(COLOURS);
        Check.is("at level 0", solver.solutions(), 6);
        solver.decide(0, 0);
        Check.is("at level 1", solver.solutions(), 2);
        solver.back();
        Check.is("at level 0 again", solver.solutions(), 6);
    }

    static void promise20_allConstraintsMustBeFulfilled() {
        String free = ReportEdges.free(1);
        Check.is("the last one, too", Check.solver(free + "differ a b;".repeat(7) + "differ f g;").solutions(), 32);
        Check.is("the first one, too", Check.solver(free + "differ f g;" + "differ a b;".repeat(7)).solutions(), 32);
    }

    static void promise20_learntSetsDoNotMatter() {
        SupportSolver solver = LearnEdges.twoSets();
        solver.back();
        Check.is("two sets", solver.report(4), 2);
        SupportSolver fresh = Check.solver(LearnEdges.TWO_SETS);
        Check.is("solutions", solver.solutions(), fresh.solutions());
        Check.same("the first one", firsts(solver), firsts(fresh));
        Check.same("possible values", possible(solver), possible(fresh));
    }

    static void promise20_nothingChanges() {
        for (String text : new String[] {"", COLOURS, TRIANGLE, FAILED, PIGEONS, ReportEdges.free(4)}) {
            SupportSolver solver = Check.solver(text);
            for (int round = 0; round < 2; round++) {
                solver.solutions();
                solver.overlooked();
                for (int variable = 0; variable < solver.report(0); variable++) {
                    int it = variable;
                    solver.possible(it);
                    Check.thrown(() -> solver.first(it));
                }
            }
            Check.same("all", Shown.all(solver), Shown.all(Check.solver(text)));
        }
    }

    // ---- promise 21

    static void promise21_lexicographicallyByTheNumbersOfTheVariables() {
        Check.same("all free", firsts(Check.solver(ReportEdges.free(4))), "0000000");
        Check.same("colours", firsts(Check.solver(COLOURS)), "012");
        Check.same("a before b, whatever the constraint's order", firsts(Check.solver(
                "var a 0 1;var b 0 1;counts b a value 1 1 1;")), "01");
        Check.same("the greatest values", firsts(Check.solver("var a 0 4;var b 0 4;window 1 16 1 1 b a;")), "44");
        Check.same("overlooked values", firsts(Check.solver(PIGEONS)), "201");
    }

    static void promise21_ofThePresentDomains() {
        SupportSolver solver = Check.solver(COLOURS);
        solver.decide(2, 0);
        Check.same("at level 1", firsts(solver), "120");
        solver.back();
        solver.forbid(0, 0);
        Check.same("at level 0", firsts(solver), "102");
    }

    static void promise21_noSuchVariable() {
        for (int variable : FAR) {
            Check.refused(Check.INDEX, of(COLOURS), solver -> solver.first(variable));
        }
        Check.refused(Check.INDEX, of(COLOURS), solver -> solver.first(3));
        Check.refused(Check.INDEX, of(ReportEdges.free(1)), solver -> solver.first(7));
        Check.refused(Check.INDEX, SupportSolver::new, solver -> solver.first(0));
    }

    static void promise21_thereIsNoSolution() {
        Check.refused(Check.ELEMENT, of(TRIANGLE), solver -> solver.first(0));
        Check.refused(Check.ELEMENT, of(FAILED), solver -> solver.first(2));
        Check.refused(Check.ELEMENT, of(FAILED), solver -> solver.first(0));
    }

    // ---- promise 22

    static void promise22_noneSomeAndAll() {
        Check.same("none", possible(Check.solver(TRIANGLE)), "0 0 0");
        Check.same("some", possible(Check.solver(PIGEONS)), "4 3 3");
        Check.same("all", possible(Check.solver(ReportEdges.free(4))), "31 31 31 31 31 31 31");
        Check.same("after a failure", possible(Check.solver(FAILED)), "0 0 0");
    }

    static void promise22_ofThePresentDomains() {
        SupportSolver solver = Check.solver(COLOURS);
        Check.same("at level 0", possible(solver), "7 7 7");
        solver.decide(0, 1);
        Check.same("at level 1", possible(solver), "2 5 5");
        solver.decide(1, 0);
        Check.same("at level 2", possible(solver), "2 1 4");
        solver.restart();
        Check.same("at level 0 again", possible(solver), "7 7 7");
    }

    static void promise22_noSuchVariable() {
        for (int variable : FAR) {
            Check.refused(Check.INDEX, of(COLOURS), solver -> solver.possible(variable));
        }
        Check.refused(Check.INDEX, of(COLOURS), solver -> solver.possible(3));
        Check.refused(Check.INDEX, of(FAILED), solver -> solver.possible(3));
        Check.refused(Check.INDEX, SupportSolver::new, solver -> solver.possible(0));
    }

    // ---- promise 23

    static void promise23_noneSomeAndAll() {
        Check.is("without variables", new SupportSolver().overlooked(), 0);
        Check.is("none", Check.solver(COLOURS).overlooked(), 0);
        Check.is("none of all", Check.solver(ReportEdges.free(4)).overlooked(), 0);
        Check.is("some", Check.solver(PIGEONS).overlooked(), 2);
        Check.is("all", Check.solver(TRIANGLE).overlooked(), 6);
    }

    static void promise23_afterAFailureTheValuesThatAreLeft() {
        Check.is("one of b, five of c", Check.solver(FAILED).overlooked(), 6);
        SupportSolver solver = Check.solver("var a 0 0;");
        solver.forbid(0, 0);
        Check.is("no values are left", solver.overlooked(), 0);
    }

    static void promise23_ofThePresentDomains() {
        SupportSolver solver = Check.solver(PIGEONS);
        Check.is("none is forbidden", solver.overlooked(), 2);
        solver.decide(0, 0);
        Check.is("after a failure b and c keep one value each", solver.overlooked(), 2);
        solver.back();
        solver.forbid(0, 0);
        Check.is("one is forbidden", solver.overlooked(), 1);
        solver.forbid(0, 1);
        Check.is("both are forbidden", solver.overlooked(), 0);
    }
}
