/** Promises 20 to 23: what is told of all solutions. */
public final class SolutionTest {
    private static final String COLOURS = "var a 0 2;var b 0 2;var c 0 2;differ a b;differ b c;differ a c;";
    private static final String TRIANGLE = "var a 0 1;var b 0 1;var c 0 1;differ a b;differ b c;differ a c;";

    public static void main(String[] args) {
        solutions();
        first();
        possible();
        overlooked();
        nothingChanges();
        setsDoNotMatter();
        Check.end();
    }

    private static void solutions() {
        Check.is("without variables", new SupportSolver().solutions(), 1);
        Check.is("without constraints", Check.solver("var a 0 4;var b 1 3;").solutions(), 15);
        Check.is("all of 7 variables", Check.solver("var a 0 4;var b 0 4;var c 0 4;var d 0 4;var e 0 4;var f 0 4;"
                + "var g 0 4;").solutions(), 78125);
        SupportSolver solver = Check.solver(COLOURS);
        Check.is("three colours", solver.solutions(), 6);
        solver.decide(1, 2);
        Check.is("after a decision", solver.solutions(), 2);
        solver.back();
        Check.is("after back", solver.solutions(), 6);
        solver.forbid(0, 0);
        Check.is("after forbid", solver.solutions(), 4);
        Check.put(solver, "var a 0 2;var b 0 2;var c 0 2;differ a b;");
        solver.load();
        Check.is("after load", solver.solutions(), 18);
        Check.put(solver, "var a 0 2;var b 0 2;var c 0 2;differ a b;differ b c;");
        solver.load();
        Check.is("after a load that leads to the same domains", solver.solutions(), 12);
        Check.is("with another first one", solver.first(2), 0);
        Check.is("not possible before", solver.possible(1), 7);
        Check.put(solver, "var a 0 2;var b 0 2;var c 0 2;less b a;");
        solver.load();
        solver.search(9);
        Check.is("of a search", solver.solutions(), 1);
        Check.is("that propagation does not see", Check.solver(TRIANGLE).solutions(), 0);
        Check.is("after a failure", Check.solver("var a 1 1;var b 1 1;less a b;").solutions(), 0);
        Check.is("constraints of all kinds", Check.solver("var a 0 3;var b 0 3;var c 0 3;var d 0 3;less a d;differ b c;"
                + "counts a b c d value 0 1 1 value 3 0 1;window 2 6 1 2 b c d;").solutions(), 22);
    }

    private static void firsts(SupportSolver solver, int... due) {
        for (int variable = 0; variable < due.length; variable++) {
            Check.is("first " + variable, solver.first(variable), due[variable]);
        }
    }

    private static void first() {
        SupportSolver solver = Check.solver(COLOURS);
        firsts(solver, 0, 1, 2);
        solver.forbid(1, 1);
        firsts(solver, 0, 2, 1);
        solver.decide(2, 0);
        firsts(solver, 1, 2, 0);
        firsts(Check.solver("var a 2 4;var b 1 2;var c 0 4;var d 3 3;"), 2, 1, 0, 3);
        // b stands between two variables that hang together, and is free.
        firsts(Check.solver("var a 0 2;var b 1 2;var c 0 2;var d 0 2;less c a;less d c;differ b d;"), 2, 1, 1, 0);
        SupportSolver one = Check.solver("var a 0 2;var b 0 2;var c 0 2;counts a b c value 0 1 1 value 2 2 2;"
                + "differ c b;");
        firsts(one, 2, 0, 2);
        Check.isThrown("first -1", Check.INDEX, () -> solver.first(-1));
        Check.isThrown("first 3", Check.INDEX, () -> solver.first(3));
        SupportSolver none = Check.solver(TRIANGLE);
        Check.isThrown("no solution", Check.ELEMENT, () -> none.first(0));
        Check.isThrown("no solution and no variable", Check.INDEX, () -> none.first(3));
        SupportSolver failed = Check.solver("var a 1 1;var b 1 1;less a b;");
        Check.isThrown("failed", Check.ELEMENT, () -> failed.first(1));
    }

    private static void possible() {
        SupportSolver solver = Check.solver(COLOURS);
        for (int variable = 0; variable < 3; variable++) {
            Check.is("possible " + variable, solver.possible(variable), 7);
        }
        solver.decide(0, 1);
        Check.is("the decided one", solver.possible(0), 2);
        Check.is("another", solver.possible(2), 5);
        // Propagation leaves b and c as they are, but the solutions know that a = 2.
        SupportSolver pigeons = Check.solver("var a 0 2;var b 0 1;var c 0 1;differ a b;differ b c;differ a c;");
        Check.is("domain of a", pigeons.domain(0), 7);
        Check.is("possible a", pigeons.possible(0), 4);
        Check.is("possible b", pigeons.possible(1), 3);
        Check.is("no solution", Check.solver(TRIANGLE).possible(1), 0);
        Check.is("failed", Check.solver("var a 1 1;var b 1 1;less a b;").possible(1), 0);
        Check.is("without constraints", Check.solver("var a 1 3;").possible(0), 14);
        Check.isThrown("possible -1", Check.INDEX, () -> solver.possible(-1));
        Check.isThrown("possible 3", Check.INDEX, () -> solver.possible(3));
    }

    private static void overlooked() {
        Check.is("without variables", new SupportSolver().overlooked(), 0);
        Check.is("all have solutions", Check.solver(COLOURS).overlooked(), 0);
        Check.is("none has", Check.solver(TRIANGLE).overlooked(), 6);
        SupportSolver pigeons = Check.solver("var a 0 2;var b 0 1;var c 0 1;differ a b;differ b c;differ a c;");
        Check.is("two of a", pigeons.overlooked(), 2);
        pigeons.forbid(0, 0);
        Check.is("one of a", pigeons.overlooked(), 1);
        Check.is("decide", pigeons.decide(0, 1), 4);
        Check.is("after a failure, the values that are left", pigeons.overlooked(), 2);
        pigeons.back();
        Check.is("one of a again", pigeons.overlooked(), 1);
    }

    private static void nothingChanges() {
        SupportSolver solver = Check.solver(COLOURS);
        solver.decide(0, 0);
        int[] due = {3, 3, 1, 4, 0, 0, 1, 1};
        for (int round = 0; round < 2; round++) {
            for (int what = 0; what < due.length; what++) {
                Check.is("report " + what, solver.report(what), due[what]);
            }
            solver.solutions();
            solver.first(2);
            solver.possible(2);
            solver.overlooked();
        }
    }

    private static void setsDoNotMatter() {
        SupportSolver four = Check.solver("var a 0 3;var b 0 2;var c 0 2;var d 0 2;"
                + "differ a b;differ a c;differ a d;differ b c;differ b d;differ c d;");
        int before = four.solutions();
        four.decide(1, 0);
        four.decide(0, 1);
        Check.is("it fails", four.report(5), 1);
        four.learn();
        four.back();
        Check.is("a set is kept", four.report(4), 1);
        Check.is("solutions with a learnt set", four.solutions(), before);
        Check.is("before", before, 6);
    }
}
