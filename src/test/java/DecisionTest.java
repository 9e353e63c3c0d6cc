/** Promises 24 to 28: forbidding, deciding, taking back, probing. */
public final class DecisionTest {
    private static final String PAIR = "var a 0 3;var b 0 3;less a b;differ b a;";
    private static final String COLOURS = "var a 0 2;var b 0 2;var c 0 2;differ a b;differ b c;differ a c;";
    private static final String TRIANGLE = "var a 0 1;var b 0 1;var c 0 1;differ a b;differ b c;differ a c;";

    public static void main(String[] args) {
        forbid();
        forbidWrongly();
        decide();
        decideWrongly();
        back();
        decision();
        probe();
        probeWrongly();
        Check.end();
    }

    private static void domains(String when, SupportSolver solver, int... due) {
        for (int variable = 0; variable < due.length; variable++) {
            Check.is("domain " + variable + " " + when, solver.domain(variable), due[variable]);
        }
    }

    private static void fact(SupportSolver solver, int index, int... due) {
        for (int what = 0; what < 4; what++) {
            Check.is("fact " + index + " " + what, solver.fact(index, what), due[what]);
        }
    }

    private static void forbid() {
        SupportSolver solver = Check.solver(PAIR);
        Check.is("forbid a = 1", solver.forbid(0, 1), 1);
        fact(solver, 2, 0, 1, -2, 0);
        domains("after forbid", solver, 5, 14);
        Check.is("forbid b = 3", solver.forbid(1, 3), 2);
        fact(solver, 3, 1, 3, -2, 0);
        fact(solver, 4, 0, 2, 0, 0);
        domains("after the second forbid", solver, 1, 6);
        Check.is("forbid is no decision", solver.report(7), 0);
        Check.is("the level stays", solver.report(2), 0);
        Check.is("forbid the last value of a fixed variable", solver.forbid(0, 0), 1);
        Check.is("it has failed", solver.report(5), 1);
        domains("without propagation then", solver, 0, 6);
        Check.isThrown("forbid after a failure", Check.STATE, () -> solver.forbid(1, 1));
    }

    private static void forbidWrongly() {
        SupportSolver solver = Check.solver(PAIR);
        Check.isThrown("forbid variable 2", Check.INDEX, () -> solver.forbid(2, 0));
        Check.isThrown("forbid variable -1, value 9", Check.INDEX, () -> solver.forbid(-1, 9));
        Check.isThrown("forbid a removed value", Check.ARGUMENT, () -> solver.forbid(0, 3));
        Check.isThrown("forbid value 4", Check.ARGUMENT, () -> solver.forbid(0, 4));
        Check.isThrown("forbid value 5", Check.ARGUMENT, () -> solver.forbid(0, 5));
        Check.isThrown("forbid value -1", Check.ARGUMENT, () -> solver.forbid(1, -1));
        Check.isThrown("forbid value 64", Check.ARGUMENT, () -> solver.forbid(0, 64));
        solver.decide(0, 0);
        Check.isThrown("forbid at level 1", Check.STATE, () -> solver.forbid(1, 2));
        Check.isThrown("forbid a removed value at level 1", Check.ARGUMENT, () -> solver.forbid(0, 1));
        Check.is("nothing has changed", solver.report(3), 4);
        solver.back();
        Check.is("forbid at level 0 again", solver.forbid(1, 2), 1);
        SupportSolver failed = Check.solver("var a 1 1;var b 1 1;less a b;");
        Check.isThrown("forbid after a failure", Check.STATE, () -> failed.forbid(1, 1));
        Check.isThrown("forbid what is gone after a failure", Check.ARGUMENT, () -> failed.forbid(0, 1));
    }

    private static void decide() {
        SupportSolver solver = Check.solver(COLOURS);
        Check.is("decide a = 1", solver.decide(0, 1), 4);
        fact(solver, 0, 0, 0, -1, 1);
        fact(solver, 1, 0, 2, -1, 1);
        fact(solver, 2, 1, 1, 0, 1);
        fact(solver, 3, 2, 1, 2, 1);
        Check.is("decide c = 0", solver.decide(2, 0), 2);
        fact(solver, 4, 2, 2, -1, 2);
        fact(solver, 5, 1, 0, 1, 2);
        domains("after two decisions", solver, 2, 4, 1);
        Check.is("level", solver.report(2), 2);
        Check.is("decisions", solver.report(7), 2);
        SupportSolver triangle = Check.solver(TRIANGLE);
        Check.is("decide that fails", triangle.decide(0, 0), 4);
        Check.is("failed", triangle.report(5), 1);
        domains("after the failure", triangle, 0, 2, 1);
        Check.is("level after the failure", triangle.report(2), 1);
        Check.is("no constraints", Check.solver("var a 0 4;").decide(0, 4), 4);
    }

    private static void decideWrongly() {
        SupportSolver solver = Check.solver(PAIR);
        Check.isThrown("decide variable 2", Check.INDEX, () -> solver.decide(2, 0));
        Check.isThrown("decide variable -1, value 9", Check.INDEX, () -> solver.decide(-1, 9));
        Check.isThrown("decide a removed value", Check.ARGUMENT, () -> solver.decide(1, 0));
        Check.isThrown("decide value 5", Check.ARGUMENT, () -> solver.decide(0, 5));
        Check.isThrown("decide value -1", Check.ARGUMENT, () -> solver.decide(0, -1));
        solver.decide(0, 2);
        Check.isThrown("decide a fixed variable", Check.STATE, () -> solver.decide(1, 3));
        Check.isThrown("decide another value of a fixed variable", Check.ARGUMENT, () -> solver.decide(1, 2));
        Check.is("nothing has changed", solver.report(2) * 100 + solver.report(3) * 10 + solver.report(7), 161);
        SupportSolver failed = Check.solver("var a 1 1;var b 1 1;var c 0 1;less a b;");
        Check.isThrown("decide after a failure", Check.STATE, () -> failed.decide(2, 1));
        Check.isThrown("decide what is gone after a failure", Check.ARGUMENT, () -> failed.decide(0, 1));
    }

    private static void back() {
        SupportSolver solver = Check.solver(COLOURS);
        solver.decide(0, 1);
        solver.decide(2, 0);
        Check.is("back", solver.back(), 2);
        domains("after back", solver, 2, 5, 5);
        Check.is("level after back", solver.report(2), 1);
        Check.is("decide otherwise", solver.decide(2, 2), 2);
        domains("after another decision", solver, 2, 1, 4);
        solver.back();
        Check.is("back to level 0", solver.back(), 4);
        domains("at level 0", solver, 7, 7, 7);
        Check.is("decisions were made nevertheless", solver.report(7), 3);
        Check.isThrown("back at level 0", Check.STATE, solver::back);
        SupportSolver pair = Check.solver(PAIR);
        pair.decide(1, 1);
        Check.is("facts of level 0 stay", pair.back(), 4);
        Check.is("facts", pair.report(3), 2);
        SupportSolver triangle = Check.solver(TRIANGLE);
        triangle.decide(1, 1);
        Check.is("back from a failure", triangle.back(), 4);
        Check.is("not failed then", triangle.report(5), 0);
        Check.is("nothing is propagated", triangle.report(3), 0);
        SupportSolver failed = Check.solver("var a 1 1;var b 1 1;less a b;");
        Check.isThrown("back from a failure at level 0", Check.STATE, failed::back);
        Check.is("it stays failed", failed.report(5), 1);
    }

    private static void decision() {
        SupportSolver solver = Check.solver("var a 0 4;var b 0 4;var c 0 4;var d 0 4;var e 0 4;var f 0 4;var g 0 4;");
        Check.isThrown("decision 0 of none", Check.INDEX, () -> solver.decision(0));
        int[] due = {64, 3, 50, 12, 41, 20, 34};
        for (int told : due) {
            solver.decide(told / 10, told % 10);
        }
        for (int i = 0; i < due.length; i++) {
            Check.is("decision " + i, solver.decision(i), due[i]);
        }
        Check.isThrown("decision 7", Check.INDEX, () -> solver.decision(7));
        Check.isThrown("decision -1", Check.INDEX, () -> solver.decision(-1));
        solver.back();
        Check.isThrown("a decision that is taken back", Check.INDEX, () -> solver.decision(6));
        Check.is("the latest one that stays", solver.decision(5), 20);
        solver.decide(3, 0);
        Check.is("another one", solver.decision(6), 30);
        Check.is("four facts of each decision", solver.report(3), 28);
        solver.restart();
        Check.isThrown("decision 0 after restart", Check.INDEX, () -> solver.decision(0));
    }

    private static void probe() {
        SupportSolver solver = Check.solver(COLOURS);
        Check.is("probe a = 1", solver.probe(0, 1), 4);
        domains("after probe", solver, 7, 7, 7);
        for (int what = 2; what < 8; what++) {
            Check.is("report " + what + " after probe", solver.report(what), 0);
        }
        solver.decide(0, 1);
        Check.is("probe at level 1", solver.probe(2, 0), 2);
        Check.is("decide as probed", solver.decide(2, 0), 2);
        Check.is("probed decisions do not count", solver.report(7), 2);
        Check.isThrown("a probed decision is not there", Check.INDEX, () -> solver.decision(2));
        SupportSolver triangle = Check.solver(TRIANGLE);
        Check.is("probe that would fail", triangle.probe(0, 0), SupportSolver.NONE);
        Check.is("it has not failed", triangle.report(5), 0);
        // Learnt sets take part.
        SupportSolver four = Check.solver("var a 0 2;var b 0 2;var c 0 2;var d 0 2;"
                + "differ a b;differ a c;differ a d;differ b c;differ b d;differ c d;");
        Check.is("probe before learning", four.probe(1, 1), 5);
        four.decide(0, 0);
        four.decide(1, 1);
        four.learn();
        four.back();
        Check.is("probe after learning", four.probe(1, 1), SupportSolver.NONE);
        SupportSolver five = Check.solver("var a 0 3;var b 0 2;var c 0 2;var d 0 2;"
                + "differ a b;differ a c;differ a d;differ b c;differ b d;differ c d;");
        Check.is("probe a = 0", five.probe(0, 0), 6);
        Check.is("probe a = 3", five.probe(0, 3), 3);
    }

    private static void probeWrongly() {
        SupportSolver solver = Check.solver(PAIR);
        Check.isThrown("probe variable 2", Check.INDEX, () -> solver.probe(2, 0));
        Check.isThrown("probe variable -1, value 9", Check.INDEX, () -> solver.probe(-1, 9));
        Check.isThrown("probe a removed value", Check.ARGUMENT, () -> solver.probe(1, 0));
        Check.isThrown("probe value 5", Check.ARGUMENT, () -> solver.probe(0, 5));
        Check.isThrown("probe value -1", Check.ARGUMENT, () -> solver.probe(0, -1));
        solver.decide(0, 2);
        Check.isThrown("probe a fixed variable", Check.STATE, () -> solver.probe(1, 3));
        Check.isThrown("probe another value of a fixed variable", Check.ARGUMENT, () -> solver.probe(1, 2));
        SupportSolver failed = Check.solver("var a 1 1;var b 1 1;var c 0 1;less a b;");
        Check.isThrown("probe after a failure", Check.STATE, () -> failed.probe(2, 1));
    }
}
