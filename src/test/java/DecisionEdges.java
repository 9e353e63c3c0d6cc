import java.util.function.Supplier;

/** The boundary cases of promises 24 to 28, and those of DECISIONS AND LEARNT SETS that are about decisions. */
final class DecisionEdges {
    private static final int[] FAR = {Integer.MIN_VALUE, -2, -1, Integer.MAX_VALUE};
    /** a from 0 to 2, b from 1 to 3 after propagation: 03:0@0 10:0@0. */
    private static final String PAIR = "var a 0 3;var b 0 3;less a b;differ b a;";
    private static final String COLOURS = "var a 0 2;var b 0 2;var c 0 2;differ a b;differ b c;differ a c;";
    private static final String TRIANGLE = "var a 0 1;var b 0 1;var c 0 1;differ a b;differ b c;differ a c;";
    private static final String FAILED = "var a 1 1;var b 1 1;var c 0 1;less a b;";

    private DecisionEdges() {
    }

    private static Supplier<SupportSolver> of(String text) {
        return () -> Check.solver(text);
    }

    private static SupportSolver decided(String text, int... told) {
        SupportSolver solver = Check.solver(text);
        for (int it : told) {
            solver.decide(it / 10, it % 10);
        }
        return solver;
    }

    // ---- promise 24

    static void promise24_theFirstAndTheLastValueOfTheFirstAndTheLastVariable() {
        SupportSolver solver = Check.solver(ReportEdges.free(4));
        Check.is("a = 0", solver.forbid(0, 0), 1);
        Check.is("a = 4", solver.forbid(0, 4), 1);
        Check.is("g = 0", solver.forbid(6, 0), 1);
        Check.is("g = 4", solver.forbid(6, 4), 1);
        Check.same("domains", Shown.domains(solver), "14 31 31 31 31 31 14");
        Check.same("facts", Shown.facts(solver), "00:-2@0 04:-2@0 60:-2@0 64:-2@0");
    }

    static void promise24_theFactsThatFollowAreCounted() {
        SupportSolver solver = Check.solver(PAIR);
        Check.is("forbid", solver.forbid(1, 3), 2);
        Check.same("facts", Shown.facts(solver, 2), "13:-2@0 02:0@0");
        Check.is("decisions", solver.report(7), 0);
    }

    static void promise24_theLastValueMakesItFailWithoutPropagation() {
        SupportSolver solver = Check.solver("var a 2 2;var b 0 4;differ b a;");
        Check.is("facts", solver.report(3), 1);
        Check.is("forbid", solver.forbid(0, 2), 1);
        Check.same("reports", Shown.reports(solver), "2 1 0 2 0 1 0 0");
        Check.same("domains", Shown.domains(solver), "0 27");
    }

    static void promise24_propagationThatFailsIsCounted() {
        SupportSolver solver = Check.solver(TRIANGLE);
        Check.is("forbid", solver.forbid(0, 1), 4);
        Check.same("facts", Shown.facts(solver), "01:-2@0 10:0@0 21:1@0 00:2@0");
        Check.is("failed", solver.report(5), 1);
    }

    static void promise24_noSuchVariable() {
        for (int variable : FAR) {
            Check.refused(Check.INDEX, of(PAIR), solver -> solver.forbid(variable, 1));
        }
        Check.refused(Check.INDEX, of(PAIR), solver -> solver.forbid(2, 1));
        Check.refused(Check.INDEX, of(ReportEdges.free(4)), solver -> solver.forbid(7, 0));
    }

    static void promise24_aValueThatIsNotInTheDomain() {
        for (int value : FAR) {
            Check.refused(Check.ARGUMENT, of(PAIR), solver -> solver.forbid(1, value));
        }
        Check.refused(Check.ARGUMENT, of(PAIR), solver -> solver.forbid(0, 3));
        Check.refused(Check.ARGUMENT, of(PAIR), solver -> solver.forbid(0, 4));
        Check.refused(Check.ARGUMENT, of(PAIR), solver -> solver.forbid(0, 5));
        Check.refused(Check.ARGUMENT, of(ReportEdges.free(4)), solver -> solver.forbid(0, 5));
        Check.refused(Check.ARGUMENT, of(ReportEdges.free(4)), solver -> solver.forbid(1, -5));
        Check.refused(Check.ARGUMENT, of(ReportEdges.free(4)), solver -> solver.forbid(0, 64));
    }

    static void promise24_aValueThatHasBeenForbidden() {
        Check.refused(Check.ARGUMENT, () -> {
            SupportSolver solver = Check.solver(PAIR);
            solver.forbid(0, 1);
            return solver;
        }, solver -> solver.forbid(0, 1));
    }

    static void promise24_thereAreDecisions() {
        Check.refused(Check.STATE, () -> decided(PAIR, 0), solver -> solver.forbid(1, 2));
        SupportSolver solver = decided(PAIR, 0);
        solver.back();
        Check.is("after back", solver.forbid(1, 2), 1);
    }

    static void promise24_theSolverHasFailed() {
        Check.refused(Check.STATE, of(FAILED), solver -> solver.forbid(2, 1));
        Check.refused(Check.STATE, () -> decided(TRIANGLE, 0), solver -> solver.forbid(1, 1));
    }

    // ---- promise 25

    static void promise25_valuesFrom0To4() {
        for (int value = 0; value <= 4; value++) {
            SupportSolver solver = Check.solver(ReportEdges.free(4));
            Check.is("decide", solver.decide(6, value), 4);
            Check.is("domain", solver.domain(6), 1 << value);
            Check.is("decision", solver.decision(0), 60 + value);
        }
    }

    static void promise25_aDomainOfTwoValues() {
        SupportSolver solver = Check.solver("var a 0 1;");
        Check.is("decide", solver.decide(0, 1), 1);
        Check.same("facts", Shown.facts(solver), "00:-1@1");
    }

    static void promise25_theFactsThatFollowAreCounted() {
        SupportSolver solver = Check.solver(COLOURS);
        Check.is("the first decision", solver.decide(0, 1), 4);
        Check.is("the second one", solver.decide(2, 0), 2);
        Check.same("facts", Shown.facts(solver), "00:-1@1 02:-1@1 11:0@1 21:2@1 22:-1@2 10:1@2");
    }

    static void promise25_aDecisionThatFails() {
        SupportSolver solver = Check.solver(TRIANGLE);
        Check.is("decide", solver.decide(0, 0), 4);
        Check.same("reports", Shown.reports(solver), "3 3 1 4 0 1 2 1");
        Check.same("decisions", Shown.decisions(solver), "0");
    }

    static void promise25_sevenDecisions() {
        SupportSolver solver = Check.solver(ReportEdges.free(4));
        for (int variable = 6; variable >= 0; variable--) {
            Check.is("decide", solver.decide(variable, 4), 4);
        }
        Check.same("reports", Shown.reports(solver), "7 0 7 28 0 0 7 7");
        Check.isThrown("an eighth one", Check.STATE, () -> solver.decide(0, 4));
    }

    static void promise25_noSuchVariable() {
        for (int variable : FAR) {
            Check.refused(Check.INDEX, of(PAIR), solver -> solver.decide(variable, 1));
        }
        Check.refused(Check.INDEX, of(PAIR), solver -> solver.decide(2, 1));
        Check.refused(Check.INDEX, of(ReportEdges.free(4)), solver -> solver.decide(7, 0));
    }

    static void promise25_aValueThatIsNotInTheDomain() {
        for (int value : FAR) {
            Check.refused(Check.ARGUMENT, of(PAIR), solver -> solver.decide(1, value));
        }
        Check.refused(Check.ARGUMENT, of(PAIR), solver -> solver.decide(0, 3));
        Check.refused(Check.ARGUMENT, of(PAIR), solver -> solver.decide(0, 4));
        Check.refused(Check.ARGUMENT, of(ReportEdges.free(4)), solver -> solver.decide(0, 5));
        Check.refused(Check.ARGUMENT, of(ReportEdges.free(4)), solver -> solver.decide(1, -5));
        Check.refused(Check.ARGUMENT, of(ReportEdges.free(4)), solver -> solver.decide(0, 64));
    }

    static void promise25_aFixedVariable() {
        Check.refused(Check.STATE, of("var a 3 3;"), solver -> solver.decide(0, 3));
        Check.refused(Check.STATE, () -> decided(PAIR, 2), solver -> solver.decide(0, 2));
        Check.refused(Check.STATE, () -> decided(PAIR, 2), solver -> solver.decide(1, 3));
    }

    static void promise25_theSolverHasFailed() {
        Check.refused(Check.STATE, of(FAILED), solver -> solver.decide(2, 1));
        Check.refused(Check.STATE, of(FAILED), solver -> solver.decide(1, 1));
        Check.refused(Check.STATE, () -> decided("var d 0 4;" + TRIANGLE, 10), solver -> solver.decide(0, 2));
    }

    // ---- promise 26

    static void promise26_thereIsNoDecision() {
        Check.refused(Check.STATE, SupportSolver::new, SupportSolver::back);
        Check.refused(Check.STATE, of(PAIR), SupportSolver::back);
        Check.refused(Check.STATE, of(FAILED), SupportSolver::back);
        SupportSolver solver = decided(PAIR, 0);
        solver.back();
        Check.isThrown("back twice", Check.STATE, solver::back);
    }

    static void promise26_oneFactAndMore() {
        SupportSolver solver = decided("var a 0 1;var b 0 4;", 1, 14);
        Check.is("four facts", solver.back(), 4);
        Check.is("one fact", solver.back(), 1);
        Check.same("reports", Shown.reports(solver), "2 0 0 0 0 0 0 2");
        Check.same("domains", Shown.domains(solver), "3 31");
        Check.is("what follows from a decision goes with it", decided(COLOURS, 1).back(), 4);
    }

    static void promise26_whatLearningAddedToTheLevelGoesToo() {
        SupportSolver solver = LearnEdges.twoSets();
        Check.same("facts", Shown.facts(solver), "00:-1@1 51:3@1 21:100@1 11:100@1");
        Check.is("back", solver.back(), 4);
        Check.is("facts", solver.report(3), 0);
    }

    static void promise26_theLatestDecisionAlone() {
        SupportSolver solver = decided(ReportEdges.free(4), 3, 12, 64);
        solver.back();
        Check.same("decisions", Shown.decisions(solver), "3 12");
        Check.same("domains", Shown.domains(solver), "8 4 31 31 31 31 31");
        Check.is("decisions that were made", solver.report(7), 3);
    }

    static void promise26_factsOfLevel0Stay() {
        SupportSolver solver = decided(PAIR, 2);
        Check.is("back", solver.back(), 4);
        Check.same("facts", Shown.facts(solver), "03:0@0 10:0@0");
    }

    // ---- promise 27

    static void promise27_theFirstAndTheLastOfSeven() {
        SupportSolver solver = decided(ReportEdges.free(4), 64, 50, 41, 32, 23, 14, 0);
        Check.is("the first", solver.decision(0), 64);
        Check.is("the last", solver.decision(6), 0);
        Check.same("all", Shown.decisions(solver), "64 50 41 32 23 14 0");
    }

    static void promise27_noSuchDecision() {
        for (int index : FAR) {
            Check.refused(Check.INDEX, () -> decided(PAIR, 2), solver -> solver.decision(index));
        }
        Check.refused(Check.INDEX, () -> decided(PAIR, 2), solver -> solver.decision(1));
        Check.refused(Check.INDEX, of(PAIR), solver -> solver.decision(0));
        Check.refused(Check.INDEX, () -> decided(ReportEdges.free(4), 64, 50, 41, 32, 23, 14, 0),
                solver -> solver.decision(7));
    }

    static void promise27_aDecisionThatWasTakenBack() {
        SupportSolver solver = decided(COLOURS, 0, 11);
        solver.back();
        Check.isThrown("decision(1)", Check.INDEX, () -> solver.decision(1));
        solver.decide(1, 2);
        Check.is("another one in its place", solver.decision(1), 12);
    }

    static void promise27_decisionsOfASearch() {
        SupportSolver solver = Check.solver("var a 0 2;var b 3 4;var c 2 4;");
        solver.search(2);
        Check.same("decisions", Shown.decisions(solver), "13 0");
    }

    // ---- promise 28

    static void promise28_itAnswersWhatDecideWould() {
        for (String text : new String[] {PAIR, COLOURS, TRIANGLE, "var d 0 4;" + TRIANGLE, ReportEdges.free(4)}) {
            SupportSolver solver = Check.solver(text);
            for (int variable = 0; variable < solver.report(0); variable++) {
                for (int value = 0; value <= 4; value++) {
                    if ((solver.domain(variable) >> value & 1) == 1) {
                        SupportSolver other = Check.solver(text);
                        int facts = other.decide(variable, value);
                        int due = other.report(5) == 1 ? SupportSolver.NONE : facts;
                        Check.is("probe " + variable + " " + value, solver.probe(variable, value), due);
                    }
                }
            }
            Check.same("nothing changes", Shown.all(solver), Shown.all(Check.solver(text)));
        }
    }

    static void promise28_noneIfItWouldFail() {
        SupportSolver solver = Check.solver(TRIANGLE);
        Check.is("probe", solver.probe(0, 0), SupportSolver.NONE);
        Check.same("nothing changes", Shown.all(solver), Shown.all(Check.solver(TRIANGLE)));
        Check.is("one that does not fail", Check.solver("var d 0 4;" + TRIANGLE).probe(0, 4), 4);
    }

    static void promise28_amongDecisions() {
        SupportSolver solver = decided(COLOURS, 1);
        Check.is("probe", solver.probe(2, 0), 2);
        Check.same("nothing changes", Shown.all(solver), Shown.all(decided(COLOURS, 1)));
        Check.is("the seventh decision", decided(ReportEdges.free(4), 0, 10, 20, 30, 40, 50).probe(6, 4), 4);
    }

    static void promise28_learntSetsTakePart() {
        SupportSolver solver = LearnEdges.twoSets();
        solver.back();
        Check.is("b and c lose their 1, e too", solver.probe(0, 1), 4);
        Check.is("no facts came", solver.report(3), 0);
    }

    static void promise28_noSuchVariable() {
        for (int variable : FAR) {
            Check.refused(Check.INDEX, of(PAIR), solver -> solver.probe(variable, 1));
        }
        Check.refused(Check.INDEX, of(PAIR), solver -> solver.probe(2, 1));
        Check.refused(Check.INDEX, of(ReportEdges.free(4)), solver -> solver.probe(7, 0));
    }

    static void promise28_aValueThatIsNotInTheDomain() {
        for (int value : FAR) {
            Check.refused(Check.ARGUMENT, of(PAIR), solver -> solver.probe(1, value));
        }
        Check.refused(Check.ARGUMENT, of(PAIR), solver -> solver.probe(0, 3));
        Check.refused(Check.ARGUMENT, of(PAIR), solver -> solver.probe(0, 4));
        Check.refused(Check.ARGUMENT, of(ReportEdges.free(4)), solver -> solver.probe(0, 5));
        Check.refused(Check.ARGUMENT, of(ReportEdges.free(4)), solver -> solver.probe(1, -5));
        Check.refused(Check.ARGUMENT, of(ReportEdges.free(4)), solver -> solver.probe(0, 64));
    }

    static void promise28_aFixedVariable() {
        Check.refused(Check.STATE, of("var a 3 3;"), solver -> solver.probe(0, 3));
        Check.refused(Check.STATE, () -> decided(PAIR, 2), solver -> solver.probe(0, 2));
        Check.refused(Check.STATE, () -> decided(PAIR, 2), solver -> solver.probe(1, 3));
    }

    static void promise28_theSolverHasFailed() {
        Check.refused(Check.STATE, of(FAILED), solver -> solver.probe(2, 1));
        Check.refused(Check.STATE, () -> decided("var d 0 4;" + TRIANGLE, 10), solver -> solver.probe(0, 2));
    }

    // ---- DECISIONS AND LEARNT SETS

    static void decisions_allOtherValuesGoByAscendingNumbers() {
        Check.same("2", Shown.facts(decided("var a 0 4;", 2)), "00:-1@1 01:-1@1 03:-1@1 04:-1@1");
        Check.same("0", Shown.facts(decided("var a 0 4;", 0)), "01:-1@1 02:-1@1 03:-1@1 04:-1@1");
        Check.same("4", Shown.facts(decided("var a 0 4;", 4)), "00:-1@1 01:-1@1 02:-1@1 03:-1@1");
    }

    static void decisions_takingBackUndoesAFailure() {
        SupportSolver solver = decided(TRIANGLE, 0);
        Check.is("failed", solver.report(5), 1);
        Check.is("back", solver.back(), 4);
        Check.same("reports", Shown.reports(solver), "3 3 0 0 0 0 0 1");
    }

    static void decisions_takingBackUndoesAFailureOfLearning() {
        SupportSolver solver = decided("var x 0 1;" + TRIANGLE, 1, 10);
        solver.learn();
        Check.is("failed at level 1", solver.report(2) * 10 + solver.report(5), 11);
        solver.back();
        Check.same("reports", Shown.reports(solver), "4 3 0 0 1 0 0 2");
    }

    static void decisions_takingBackDoesNotPropagate() {
        SupportSolver solver = decided("var x 0 1;" + TRIANGLE, 1, 10);
        solver.learn();
        solver.back();
        Check.same("the set would remove a = 0", Shown.sets(solver), "[10]");
        Check.same("domains", Shown.domains(solver), "3 3 3 3");
        solver.decide(0, 0);
        Check.same("the next propagation does", Shown.facts(solver).substring(0, 16), "01:-1@1 10:100@1");
    }
}
