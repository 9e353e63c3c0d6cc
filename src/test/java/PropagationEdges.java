import java.util.function.Supplier;

/** The boundary cases of the paragraphs PROPAGATION and EXCEPTIONS. */
final class PropagationEdges {
    private static final String PAIR = "var a 0 3;var b 0 3;var c 0 1;less a b;";
    private static final String FAILED = "var a 1 1;var b 1 1;var c 0 1;less a b;";
    private static final String TRIANGLE = "var a 0 1;var b 0 1;var c 0 1;differ a b;differ b c;differ a c;";

    private PropagationEdges() {
    }

    private static void facts(String text, String due) {
        Check.same(text, Shown.facts(Check.solver(text)), due);
    }

    // ---- PROPAGATION

    static void propagation_constraintsByAscendingNumbers() {
        String three = "var a 0 2;var b 0 2;var c 0 2;";
        facts(three + "less a b;less b c;", "02:0@0 10:0@0 12:1@0 20:1@0 21:1@0 01:0@0");
        facts(three + "less b c;less a b;", "12:0@0 20:0@0 01:1@0 02:1@0 10:1@0 21:0@0");
    }

    static void propagation_variablesInTheOrderOfTheConstraint() {
        String two = "var a 0 1;var b 0 1;";
        facts(two + "counts b a value 0 2 2;", "11:0@0 01:0@0");
        facts(two + "counts a b value 0 2 2;", "01:0@0 11:0@0");
        facts(two + "window 1 1 1 1 b a;", "11:0@0 01:0@0");
        facts(two + "less b a;", "11:0@0 00:0@0");
        facts("var a 0 0;var b 0 1;differ b a;", "10:0@0");
    }

    static void propagation_valuesByAscendingNumbers() {
        facts("var a 0 4;counts a value 2 1 1;", "00:0@0 01:0@0 03:0@0 04:0@0");
        facts("var a 0 4;window 1 16 1 1 a;", "00:0@0 01:0@0 02:0@0 03:0@0");
    }

    static void propagation_allIsRepeatedWhileSomethingIsRemoved() {
        facts("var a 0 3;var b 0 3;var c 0 3;var d 0 3;less c d;less b c;less a b;",
                "23:0@0 30:0@0 12:1@0 13:1@0 20:1@0 01:2@0 02:2@0 03:2@0 10:2@0 31:0@0 21:1@0 32:0@0");
    }

    static void propagation_stopsAtTheFirstEmptyDomain() {
        facts("var a 1 1;var b 1 1;less a b;", "01:0@0");
        facts("var a 0 1;var b 0 0;less a b;", "00:0@0 01:0@0");
        facts("var a 0 1;var b 1 1;var c 0 4;counts b a value 0 2 2;less c a;", "11:0@0");
        facts("var a 0 1;var b 0 1;var c 0 1;window 1 4 1 1 b a;counts c value 0 1 1;", "10:0@0 11:0@0");
    }

    static void propagation_stopsBeforeTheNextConstraint() {
        SupportSolver solver = Check.solver("var a 1 1;var b 1 1;var c 0 4;less a b;differ c b;counts c value 0 1 1;");
        Check.same("facts", Shown.facts(solver), "01:0@0");
        Check.same("domains", Shown.domains(solver), "0 2 31");
    }

    static void propagation_stopsBeforeTheLearntSets() {
        SupportSolver solver = LearnEdges.twoSets();
        solver.back();
        solver.forbid(5, 0);
        Check.same("facts", Shown.facts(solver), "50:-2@0 01:3@0");
        // Beside the empty domain of a no value has a support in the sets, but they are not gone through.
        solver.forbid(0, 0);
        Check.same("facts", Shown.facts(solver), "50:-2@0 01:3@0 00:-2@0");
        Check.is("failed", solver.report(5), 1);
    }

    static void propagation_learntSetsComeBehindTheConstraintsTheOldestFirst() {
        SupportSolver solver = LearnEdges.twoSets();
        solver.back();
        Check.is("decide", solver.decide(0, 1), 4);
        Check.same("facts", Shown.facts(solver), "00:-1@1 51:3@1 21:100@1 11:100@1");
    }

    static void propagation_variablesOfALearntSetByAscendingNumbers() {
        // z = 0 makes both a and b 1, which the set forbids: a is the first to go, whatever was decided first.
        SupportSolver solver = Check.solver("var a 0 1;var b 0 1;var p 0 1;var q 0 1;var z 0 2;"
                + "differ p q;counts a b p q value 1 0 2;differ z a;differ z b;");
        solver.decide(1, 1);
        solver.decide(0, 1);
        Check.is("learn", solver.learn(), 2);
        solver.back();
        solver.decide(4, 0);
        Check.same("facts", Shown.facts(solver), "41:-1@1 42:-1@1 00:2@1 10:3@1 01:100@1");
        Check.is("failed", solver.report(5), 1);
    }

    static void propagation_nothingToRemove() {
        facts("", "");
        facts("var a 0 4;", "");
        facts("var a 0 4;var b 0 4;differ a b;", "");
        facts("var a 3 3;var b 4 4;less a b;differ a b;", "");
    }

    // ---- EXCEPTIONS

    private static SupportSolver pair() {
        return Check.solver(PAIR);
    }

    private static SupportSolver failed() {
        return Check.solver(FAILED);
    }

    private static SupportSolver atLevel1() {
        SupportSolver solver = pair();
        solver.decide(0, 0);
        return solver;
    }

    static void exceptions_theIndexBeforeTheArgument() {
        Check.refused(Check.INDEX, PropagationEdges::pair, s -> s.constraint(1, 4));
        Check.refused(Check.INDEX, PropagationEdges::pair, s -> s.constraint(-1, -1));
        Check.refused(Check.INDEX, PropagationEdges::pair, s -> s.fact(2, 4));
        Check.refused(Check.INDEX, PropagationEdges::pair, s -> s.fact(-1, -1));
        Check.refused(Check.INDEX, PropagationEdges::pair, s -> s.factOf(3, 5));
        Check.refused(Check.INDEX, PropagationEdges::pair, s -> s.isSupported(1, 0, 5));
        Check.refused(Check.INDEX, PropagationEdges::pair, s -> s.isSupported(0, 2, 5));
        Check.refused(Check.INDEX, PropagationEdges::pair, s -> s.support(1, 0, 5, 0));
        Check.refused(Check.INDEX, PropagationEdges::pair, s -> s.support(0, 2, 5, 0));
        Check.refused(Check.INDEX, PropagationEdges::pair, s -> s.support(0, 0, 5, 2));
        Check.refused(Check.INDEX, PropagationEdges::pair, s -> s.watchers(3, 5));
    }

    static void exceptions_theArgumentBeforeTheElement() {
        Check.refused(Check.ARGUMENT, PropagationEdges::pair, s -> s.factOf(0, 5));
        Check.refused(Check.ARGUMENT, PropagationEdges::pair, s -> s.support(0, 0, 5, 1));
        Check.refused(Check.ARGUMENT, PropagationEdges::failed, s -> s.support(0, 1, -1, 0));
    }

    static void exceptions_theIndexBeforeTheElement() {
        Check.refused(Check.INDEX, PropagationEdges::failed, s -> s.first(3));
        Check.refused(Check.INDEX, PropagationEdges::failed, s -> s.factOf(3, 0));
        Check.refused(Check.INDEX, PropagationEdges::failed, s -> s.support(0, 0, 1, 2));
    }

    static void exceptions_theIndexBeforeTheState() {
        Check.refused(Check.INDEX, PropagationEdges::failed, s -> s.tightness(1));
        Check.refused(Check.INDEX, PropagationEdges::failed, s -> s.forbid(3, 0));
        Check.refused(Check.INDEX, PropagationEdges::atLevel1, s -> s.forbid(3, 0));
        Check.refused(Check.INDEX, PropagationEdges::failed, s -> s.decide(3, 0));
        Check.refused(Check.INDEX, PropagationEdges::failed, s -> s.probe(3, 0));
    }

    static void exceptions_theArgumentBeforeTheState() {
        Check.refused(Check.ARGUMENT, PropagationEdges::failed, s -> s.forbid(0, 1));
        Check.refused(Check.ARGUMENT, PropagationEdges::atLevel1, s -> s.forbid(0, 1));
        Check.refused(Check.ARGUMENT, PropagationEdges::failed, s -> s.decide(0, 1));
        Check.refused(Check.ARGUMENT, PropagationEdges::atLevel1, s -> s.decide(0, 1));
        Check.refused(Check.ARGUMENT, PropagationEdges::failed, s -> s.probe(2, 2));
        Check.refused(Check.ARGUMENT, PropagationEdges::atLevel1, s -> s.probe(0, 5));
    }

    static void exceptions_theIndexBeforeAllOthers() {
        Check.refused(Check.INDEX, PropagationEdges::failed, s -> s.forbid(-1, 9));
        Check.refused(Check.INDEX, PropagationEdges::atLevel1, s -> s.forbid(3, 9));
        Check.refused(Check.INDEX, PropagationEdges::failed, s -> s.decide(-1, 9));
        Check.refused(Check.INDEX, PropagationEdges::failed, s -> s.probe(-1, 9));
        Check.refused(Check.INDEX, PropagationEdges::failed, s -> s.support(-1, 9, 9, 9));
    }

    static void exceptions_aRefusedCallChangesNothingInAnyState() {
        Supplier<SupportSolver> withText = () -> {
            SupportSolver solver = Check.solver("var x 0 1;" + TRIANGLE);
            solver.decide(0, 1);
            solver.decide(1, 0);
            solver.learn();
            Check.put(solver, "var a 0 1;?");
            Check.thrown(solver::load);
            Check.put(solver, "var a 0 1;");
            return solver;
        };
        Check.refused(Check.STATE, withText, s -> s.decide(2, 0));
        Check.refused(Check.STATE, withText, s -> s.forbid(2, 0));
        Check.refused(Check.STATE, withText, s -> s.probe(2, 0));
        Check.refused(Check.ARGUMENT, withText, s -> s.search(0));
        Check.refused(Check.INDEX, withText, s -> s.truncate(11));
        Check.refused(Check.INDEX, withText, s -> s.learnt(1, 0));
    }

    static void exceptions_aWrongTextChangesTheErrorAndTheBufferAlone() {
        SupportSolver solver = atLevel1();
        String before = Shown.state(solver);
        Check.put(solver, "var a 0 5;");
        Check.isThrown("load", Check.ARGUMENT, solver::load);
        Check.same("the state", Shown.state(solver), before);
        Check.is("errorCode", solver.errorCode(), 2);
        Check.is("errorPosition", solver.errorPosition(), 8);
        Check.is("the buffer", Shown.length(solver), 0);
    }
}
