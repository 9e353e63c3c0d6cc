/** Promises 7 to 14: reports on the state, on constraints, on facts, and their explanations. */
public final class ReportTest {
    private static final String PAIR = "var a 0 3;var b 0 3;less a b;differ b a;";

    public static void main(String[] args) {
        report();
        domain();
        constraint();
        fact();
        factOf();
        explanations();
        depths();
        forgottenSet();
        Check.end();
    }

    private static void reports(SupportSolver solver, int... due) {
        for (int what = 0; what < due.length; what++) {
            Check.is("report " + what, solver.report(what), due[what]);
        }
    }

    private static void report() {
        SupportSolver solver = Check.solver(PAIR);
        reports(solver, 2, 2, 0, 2, 0, 0, 0, 0);
        solver.decide(0, 2);
        reports(solver, 2, 2, 1, 6, 0, 0, 2, 1);
        solver.back();
        reports(solver, 2, 2, 0, 2, 0, 0, 0, 1);
        solver.forbid(1, 1);
        solver.forbid(1, 2);
        reports(solver, 2, 2, 0, 4, 0, 0, 1, 1);
        solver.forbid(1, 3);
        reports(solver, 2, 2, 0, 5, 0, 1, 0, 1);
        solver.restart();
        reports(solver, 2, 2, 0, 5, 0, 1, 0, 1);
        for (int what : new int[] {-1, 8, Integer.MIN_VALUE, Integer.MAX_VALUE}) {
            Check.isThrown("report " + what, Check.ARGUMENT, () -> solver.report(what));
        }
        SupportSolver triangle = Check.solver("var a 0 1;var b 0 1;var c 0 1;differ a b;differ b c;differ a c;");
        triangle.search(5);
        reports(triangle, 3, 3, 0, 4, 1, 1, 2, 1);
        triangle.restart();
        reports(triangle, 3, 3, 0, 4, 0, 1, 2, 1);
    }

    private static void domain() {
        SupportSolver solver = Check.solver(PAIR);
        Check.is("domain 0", solver.domain(0), 7);
        Check.is("domain 1", solver.domain(1), 14);
        solver.decide(0, 2);
        Check.is("domain 0", solver.domain(0), 4);
        Check.is("domain 1", solver.domain(1), 8);
        Check.isThrown("domain -1", Check.INDEX, () -> solver.domain(-1));
        Check.isThrown("domain 2", Check.INDEX, () -> solver.domain(2));
        Check.isThrown("domain 1000000", Check.INDEX, () -> solver.domain(1000000));
        Check.is("a domain of all values", Check.solver("var a 0 4;").domain(0), 31);
        Check.is("an empty domain", Check.solver("var a 1 1;var b 1 1;less a b;").domain(0), 0);
    }

    private static void constraint() {
        SupportSolver solver = Check.solver("var a 0 3;var b 0 3;var c 0 1;less b a;differ c a;"
                + "counts c b value 0 0 2;window 2 1 0 2 b c a;");
        int[][] due = {{2, 2, 3, 2}, {3, 2, 5, 0}, {0, 2, 6, 0}, {1, 3, 7, 0}};
        for (int i = 0; i < 4; i++) {
            for (int what = 0; what < 4; what++) {
                Check.is("constraint " + i + " " + what, solver.constraint(i, what), due[i][what]);
            }
        }
        solver.decide(1, 2);
        Check.is("facts by constraint 0", solver.constraint(0, 3), 4);
        solver.back();
        Check.is("facts by constraint 0", solver.constraint(0, 3), 2);
        Check.isThrown("constraint -1", Check.INDEX, () -> solver.constraint(-1, 0));
        Check.isThrown("constraint 4", Check.INDEX, () -> solver.constraint(4, 0));
        Check.isThrown("constraint 4 with a wrong report", Check.INDEX, () -> solver.constraint(4, 9));
        Check.isThrown("report -1", Check.ARGUMENT, () -> solver.constraint(0, -1));
        Check.isThrown("report 4", Check.ARGUMENT, () -> solver.constraint(0, 4));
    }

    private static void fact(SupportSolver solver, int index, int... due) {
        for (int what = 0; what < 4; what++) {
            Check.is("fact " + index + " " + what, solver.fact(index, what), due[what]);
        }
    }

    private static void fact() {
        SupportSolver solver = Check.solver(PAIR);
        solver.forbid(0, 0);
        solver.decide(0, 2);
        fact(solver, 0, 0, 3, 0, 0);
        fact(solver, 1, 1, 0, 0, 0);
        fact(solver, 2, 0, 0, -2, 0);
        fact(solver, 3, 1, 1, 0, 0);
        fact(solver, 4, 0, 1, -1, 1);
        fact(solver, 5, 1, 2, 0, 1);
        Check.isThrown("fact 6", Check.INDEX, () -> solver.fact(6, 0));
        Check.isThrown("fact -1", Check.INDEX, () -> solver.fact(-1, 0));
        Check.isThrown("fact 6 with a wrong report", Check.INDEX, () -> solver.fact(6, 4));
        Check.isThrown("report -1", Check.ARGUMENT, () -> solver.fact(0, -1));
        Check.isThrown("report 4", Check.ARGUMENT, () -> solver.fact(0, 4));
        SupportSolver chain = Check.solver("var a 0 2;var b 0 2;var c 0 2;less a b;less b c;");
        int[][] due = {{0, 2, 0}, {1, 0, 0}, {1, 2, 1}, {2, 0, 1}, {2, 1, 1}, {0, 1, 0}};
        for (int i = 0; i < due.length; i++) {
            fact(chain, i, due[i][0], due[i][1], due[i][2], 0);
        }
        SupportSolver failed = Check.solver("var b 0 1;var a 0 0;var c 0 1;less b a;less c a;");
        Check.is("propagation stops at an empty domain", failed.report(3), 2);
        fact(failed, 0, 0, 0, 0, 0);
        fact(failed, 1, 0, 1, 0, 0);
        SupportSolver order = Check.solver("var a 0 1;var b 0 1;counts b a value 3 1 1;");
        fact(order, 0, 1, 0, 0, 0);
        fact(order, 1, 1, 1, 0, 0);
        Check.is("the first variable of the constraint comes first", order.report(3), 2);
    }

    private static void factOf() {
        SupportSolver solver = Check.solver(PAIR);
        solver.decide(0, 2);
        Check.is("factOf 0 3", solver.factOf(0, 3), 0);
        Check.is("factOf 1 0", solver.factOf(1, 0), 1);
        Check.is("factOf 1 1", solver.factOf(1, 1), 4);
        Check.isThrown("a value of the domain", Check.ELEMENT, () -> solver.factOf(0, 2));
        Check.isThrown("a value that never was there", Check.ELEMENT, () -> solver.factOf(0, 4));
        Check.isThrown("value 5", Check.ARGUMENT, () -> solver.factOf(0, 5));
        Check.isThrown("value -1", Check.ARGUMENT, () -> solver.factOf(1, -1));
        Check.isThrown("variable 2", Check.INDEX, () -> solver.factOf(2, 0));
        Check.isThrown("variable -1 and value 5", Check.INDEX, () -> solver.factOf(-1, 5));
        solver.back();
        Check.isThrown("a fact that went", Check.ELEMENT, () -> solver.factOf(1, 1));
    }

    private static void explanations() {
        SupportSolver solver = Check.solver(PAIR);
        solver.decide(0, 2);
        // The latest facts are left out first: b = 1 goes without a = 1, but not without a = 0.
        explanation(solver, 4, 2);
        explanation(solver, 5, 2, 3);
        explanation(solver, 2);
        explanation(solver, 0);
        Check.isThrown("explained 5 2", Check.INDEX, () -> solver.explained(5, 2));
        Check.isThrown("explained 5 -1", Check.INDEX, () -> solver.explained(5, -1));
        Check.isThrown("explained 6 0", Check.INDEX, () -> solver.explained(6, 0));
        Check.isThrown("explained -1 0", Check.INDEX, () -> solver.explained(-1, 0));
        Check.isThrown("explanationSize 6", Check.INDEX, () -> solver.explanationSize(6));
        Check.isThrown("explanationSize -1", Check.INDEX, () -> solver.explanationSize(-1));
        solver.back();
        Check.isThrown("explanationSize of a fact that went", Check.INDEX, () -> solver.explanationSize(4));
        solver.forbid(0, 0);
        explanation(solver, 2);
        explanation(solver, 3, 2);
        // The same index has another fact now, and it is explained by itself.
        solver.decide(1, 3);
        explanation(solver, 4);
        SupportSolver counts = Check.solver("var a 0 2;var b 0 2;var c 0 2;counts a b c value 0 1 1 value 1 1 1;");
        counts.decide(0, 0);
        explanation(counts, 2, 0, 1);
        explanation(counts, 3, 0, 1);
        counts.decide(1, 1);
        // c = 1 goes with b = 1 or b = 0 alike, so b's lost 0 is left out, and so is a's lost 1, but not a's lost 2.
        explanation(counts, 5, 1, 4);
        SupportSolver crowd = Check.solver("var a 0 2;var b 0 2;var c 0 2;var d 2 4;"
                + "counts a b c d value 0 0 1 value 1 0 1;");
        crowd.forbid(3, 4);
        crowd.forbid(0, 2);
        Check.is("a and b take 0 and 1 from c", crowd.forbid(1, 2), 3);
        explanation(crowd, 3, 1, 2);
        explanation(crowd, 4, 1, 2);
    }

    private static void explanation(SupportSolver solver, int index, int... due) {
        Check.is("explanationSize " + index, solver.explanationSize(index), due.length);
        for (int k = 0; k < due.length; k++) {
            int it = k;
            Check.same("explained " + index + " " + k, Check.thrown(() -> solver.explained(index, it)), "nothing");
            Check.is("explained " + index + " " + k, solver.explained(index, k), due[k]);
        }
        Check.isThrown("explained " + index + " beyond", Check.INDEX, () -> solver.explained(index, due.length));
    }

    private static void depths() {
        SupportSolver solver = Check.solver("var a 0 2;var b 0 2;var c 0 2;differ a b;differ b c;differ a c;");
        solver.decide(0, 0);
        solver.decide(1, 1);
        int[] due = {0, 0, 1, 1, 0, 2};
        Check.is("facts", solver.report(3), due.length);
        for (int i = due.length - 1; i >= 0; i--) {
            Check.is("depth " + i, solver.depth(i), due[i]);
        }
        explanation(solver, 5, 2, 4);
        Check.isThrown("depth 6", Check.INDEX, () -> solver.depth(6));
        Check.isThrown("depth -1", Check.INDEX, () -> solver.depth(-1));
        SupportSolver two = Check.solver("var a 0 1;var b 0 1;differ a b;");
        two.decide(0, 0);
        Check.is("depth above the first fact", two.depth(1), 1);
        SupportSolver chain = Check.solver("var a 0 4;var b 0 4;var c 0 4;var d 0 4;less a b;less b c;less c d;");
        int deepest = 0;
        for (int i = 0; i < chain.report(3); i++) {
            deepest = Math.max(deepest, chain.depth(i));
        }
        Check.is("the deepest fact of a chain", deepest, 2);
    }

    private static void forgottenSet() {
        SupportSolver solver = Check.solver("var a 0 2;var b 0 2;var c 0 2;var d 0 2;"
                + "differ a b;differ a c;differ a d;differ b c;differ b d;differ c d;");
        solver.decide(0, 0);
        solver.decide(1, 1);
        Check.is("learn", solver.learn(), 2);
        Check.is("the set removes a value at level 1", solver.fact(solver.factOf(1, 1), 2), 100);
        explanation(solver, solver.factOf(1, 1), 0, 1);
        solver.back();
        solver.forbid(0, 1);
        Check.is("forbid", solver.forbid(0, 2), 8);
        fact(solver, 5, 1, 1, 100, 0);
        explanation(solver, 5, 0, 1);
        solver.restart();
        Check.is("no sets", solver.report(4), 0);
        fact(solver, 5, 1, 1, 100, 0);
        explanation(solver, 5, 0, 1);
        Check.is("depth by a forgotten set", solver.depth(5), 1);
        explanation(solver, 6, 2, 5);
        Check.is("depth above a forgotten set", solver.depth(6), 2);
    }
}
