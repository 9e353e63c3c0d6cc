/** Promises 29 to 32: learning, searching, starting again. */
public final class LearnTest {
    private static final String TRIANGLE = "var a 0 1;var b 0 1;var c 0 1;differ a b;differ b c;differ a c;";
    private static final String FOUR = "var a 0 2;var b 0 2;var c 0 2;var d 0 2;"
            + "differ a b;differ a c;differ a d;differ b c;differ b d;differ c d;";
    /** Four variables as in FOUR behind three free ones. */
    private static final String FREE = "var x 0 1;var y 0 1;var z 0 4;var a 0 2;var b 0 2;var c 0 2;var d 0 2;"
            + "differ a b;differ a c;differ a d;differ b c;differ b d;differ c d;";

    public static void main(String[] args) {
        learn();
        learnWrongly();
        leaveOut();
        ground();
        emptySet();
        allOfThem();
        twelveSets();
        learnt();
        search();
        searchOn();
        searchAlone();
        searchWrongly();
        restart();
        Check.end();
    }

    private static void reports(SupportSolver solver, int... due) {
        for (int what = 0; what < due.length; what++) {
            Check.is("report " + what, solver.report(what), due[what]);
        }
    }

    private static void set(SupportSolver solver, int set, int... due) {
        for (int i = 0; i < due.length; i++) {
            int index = i;
            Check.same("learnt " + set + " " + i, Check.thrown(() -> solver.learnt(set, index)), "nothing");
            Check.is("learnt " + set + " " + i, solver.learnt(set, i), due[i]);
        }
        Check.isThrown("learnt " + set + " beyond", Check.INDEX, () -> solver.learnt(set, due.length));
    }

    private static void learn() {
        SupportSolver solver = Check.solver(FOUR);
        solver.decide(1, 2);
        solver.decide(0, 1);
        Check.is("failed", solver.report(5), 1);
        Check.is("learn", solver.learn(), 2);
        set(solver, 0, 1, 12);
        // Back at level 1: a = 1 goes by the set, then all fall.
        Check.is("level", solver.report(2), 1);
        Check.is("failed again", solver.report(5), 1);
        Check.is("the set has removed a = 1", solver.fact(solver.factOf(0, 1), 2), 100);
        Check.is("its level", solver.fact(solver.factOf(0, 1), 3), 1);
        Check.is("learn again", solver.learn(), 1);
        set(solver, 1, 12);
        Check.is("level", solver.report(2), 0);
        Check.is("the second set has removed b = 2 at level 0", solver.fact(0, 2), 100);
        Check.is("value", solver.fact(0, 0) * 10 + solver.fact(0, 1), 12);
        Check.is("decisions", solver.report(7), 2);
        Check.is("not failed", solver.report(5), 0);
    }

    private static void learnWrongly() {
        SupportSolver solver = Check.solver(FOUR);
        Check.isThrown("learn at level 0", Check.STATE, solver::learn);
        solver.decide(0, 0);
        Check.isThrown("learn without a failure", Check.STATE, solver::learn);
        Check.is("nothing has changed", solver.report(2), 1);
        SupportSolver failed = Check.solver("var a 1 1;var b 1 1;less a b;");
        Check.isThrown("learn from a failure without decisions", Check.STATE, failed::learn);
        Check.is("no sets", failed.report(4), 0);
    }

    private static void leaveOut() {
        SupportSolver solver = Check.solver(FREE);
        solver.decide(2, 4);
        solver.decide(5, 1);
        solver.decide(0, 1);
        solver.decide(3, 2);
        Check.is("x and z have nothing to do with it", solver.learn(), 2);
        set(solver, 0, 32, 51);
        Check.is("level", solver.report(2), 3);
        // x = 1 and y = 1 take the same values from p and q, and z = 0 the last but one: x is tried first and left out.
        SupportSolver either = Check.solver("var x 0 2;var y 0 2;var z 0 2;var p 0 2;var q 0 2;differ p q;"
                + "differ z p;differ z q;differ x p;differ x q;differ y p;differ y q;");
        decide(either, 1, 11, 20);
        Check.is("failed", either.report(5), 1);
        Check.is("learn", either.learn(), 2);
        set(either, 0, 11, 20);
        either.restart();
        decide(either, 11, 1, 20);
        Check.is("learn in another order", either.learn(), 2);
        set(either, 0, 1, 20);
    }

    private static void ground() {
        SupportSolver solver = Check.solver("var a 0 3;var b 0 3;var c 0 3;var d 0 3;var x 0 1;"
                + "differ a b;differ a c;differ a d;differ b c;differ b d;differ c d;");
        solver.forbid(2, 3);
        solver.forbid(3, 3);
        decide(solver, 40, 0, 11);
        Check.is("failed", solver.report(5), 1);
        // What was forbidden counts when x is left out, but it is no assignment.
        Check.is("learn", solver.learn(), 2);
        set(solver, 0, 0, 11);
    }

    private static void emptySet() {
        // Sets learnt at a higher level can make the ground fail by themselves: then no assignment is needed.
        SupportSolver solver = Check.solver("var x 0 1;var a 0 1;var b 0 1;var c 0 1;"
                + "differ a b;differ b c;differ a c;");
        solver.decide(0, 1);
        solver.decide(1, 0);
        Check.is("a = 0 by itself", solver.learn(), 1);
        set(solver, 0, 10);
        Check.is("failed at level 1", solver.report(2) * 10 + solver.report(5), 11);
        Check.is("the empty set", solver.learn(), 0);
        set(solver, 1);
        reports(solver, 4, 3, 0, 4, 2, 1, 2, 2);
        Check.is("a = 0 goes by the first set", solver.fact(0, 2), 100);
        solver.restart();
        Check.is("failed for good", solver.report(5), 1);
    }

    /** A run that leads to 12 sets, of which the oldest one goes while a fact of the first level still stands on it. */
    private static SupportSolver crowded() {
        String differing = " value 0 0 1 value 1 0 1 value 2 0 1 value 3 0 1;";
        SupportSolver solver = Check.solver("var a 0 3;var b 0 3;var c 0 3;var d 0 3;var e 0 3;var f 0 3;"
                + "counts a f c" + differing + "counts d e c" + differing + "counts a f e" + differing
                + "differ b c;differ a f;differ a b;" + "counts a c d" + differing + "counts f d a" + differing);
        decide(solver, 32, 50, 3);
        solver.search(2);
        solver.search(3);
        decide(solver, 23);
        learnAll(solver, 2);
        decide(solver, 3, 10);
        solver.search(1);
        solver.back();
        decide(solver, 42, 10);
        learnAll(solver, 1);
        solver.back();
        decide(solver, 50, 11);
        learnAll(solver, 1);
        decide(solver, 31);
        return solver;
    }

    private static void decide(SupportSolver solver, int... told) {
        for (int it : told) {
            solver.decide(it / 10, it % 10);
        }
    }

    private static void learnAll(SupportSolver solver, int times) {
        for (int i = 0; i < times; i++) {
            solver.learn();
        }
    }

    private static void allOfThem() {
        SupportSolver solver = crowded();
        Check.is("failed", solver.report(5), 1);
        Check.is("12 sets", solver.report(4), 12);
        int decisions = solver.report(2);
        int[] sorted = new int[decisions];
        for (int i = 0; i < decisions; i++) {
            sorted[i] = solver.decision(i);
        }
        java.util.Arrays.sort(sorted);
        Check.is("some decisions", decisions > 1, true);
        // The set that made this fail is gone: all decisions together do not fail without it.
        Check.is("learn", solver.learn(), decisions);
        set(solver, 11, sorted);
    }

    private static String told(SupportSolver solver, int set) {
        StringBuilder told = new StringBuilder();
        for (int i = 0; Check.thrown(() -> solver.learnt(set, told.length() / 3)).equals("nothing"); i++) {
            told.append(100 + solver.learnt(set, i));
        }
        return told.toString();
    }

    private static void twelveSets() {
        SupportSolver solver = crowded();
        String[] before = new String[12];
        for (int i = 0; i < 12; i++) {
            before[i] = told(solver, i);
        }
        solver.learn();
        Check.is("12 sets still", solver.report(4), 12);
        for (int i = 0; i < 11; i++) {
            Check.same("set " + i + " is the next one of before", told(solver, i), before[i + 1]);
        }
        Check.same("the oldest one was another", before[0].equals(before[1]), false);
        Check.isThrown("learnt 12 0", Check.INDEX, () -> solver.learnt(12, 0));
    }

    private static void learnt() {
        SupportSolver solver = Check.solver(FOUR);
        Check.isThrown("learnt 0 0 of none", Check.INDEX, () -> solver.learnt(0, 0));
        solver.decide(3, 0);
        solver.decide(1, 2);
        solver.learn();
        set(solver, 0, 12, 30);
        Check.isThrown("learnt -1 0", Check.INDEX, () -> solver.learnt(-1, 0));
        Check.isThrown("learnt 0 -1", Check.INDEX, () -> solver.learnt(0, -1));
        Check.isThrown("learnt 1 0", Check.INDEX, () -> solver.learnt(1, 0));
        solver.restart();
        Check.isThrown("learnt after restart", Check.INDEX, () -> solver.learnt(0, 0));
    }

    private static void search() {
        SupportSolver solver = Check.solver("var a 0 4;var b 2 4;var c 0 1;var d 3 4;differ c a;");
        Check.is("search", solver.search(4), 1);
        int[] due = {20, 33, 12, 1};
        for (int i = 0; i < due.length; i++) {
            Check.is("decision " + i, solver.decision(i), due[i]);
        }
        reports(solver, 4, 1, 4, 8, 0, 0, 4, 4);
        Check.is("search when all is fixed", solver.search(1), 1);
        Check.is("no further decision", solver.report(7), 4);
        SupportSolver triangle = Check.solver(TRIANGLE);
        Check.is("no solution", triangle.search(1), SupportSolver.NONE);
        reports(triangle, 3, 3, 0, 4, 1, 1, 2, 1);
        Check.is("no solution still", triangle.search(100), SupportSolver.NONE);
        reports(triangle, 3, 3, 0, 4, 1, 1, 2, 1);
        SupportSolver four = Check.solver(FOUR);
        Check.is("no solution after learning", four.search(100), SupportSolver.NONE);
        Check.is("learnt", four.report(4) > 1, true);
        Check.is("failed", four.report(5), 1);
        Check.is("without variables", new SupportSolver().search(100), 1);
        Check.is("all are fixed", Check.solver("var a 1 1;").search(1), 1);
    }

    private static void searchOn() {
        SupportSolver solver = Check.solver("var a 0 4;var b 2 4;var c 0 1;var d 3 4;");
        Check.is("two decisions are not enough", solver.search(2), 0);
        reports(solver, 4, 0, 2, 2, 0, 0, 2, 2);
        Check.is("the decisions stay", solver.decision(1), 33);
        Check.is("another one", solver.search(1), 0);
        Check.is("the last one is just enough", solver.search(1), 1);
        Check.is("decisions of all searches", solver.report(7), 4);
        SupportSolver own = Check.solver(FOUR);
        own.decide(3, 2);
        Check.is("decisions before are treated like others", own.search(100), SupportSolver.NONE);
        Check.is("level", own.report(2), 0);
        SupportSolver failed = Check.solver(FOUR);
        failed.decide(0, 0);
        failed.decide(1, 1);
        Check.is("it has failed", failed.report(5), 1);
        Check.is("the search learns first", failed.search(1), 0);
        Check.is("and decides once", failed.report(7), 3);
        set(failed, 0, 0, 11);
        SupportSolver triangle = Check.solver("var x 0 1;var y 0 1;" + TRIANGLE);
        Check.is("a decision that leads to a failure is learnt from, at the limit, too", triangle.search(3),
                SupportSolver.NONE);
        Check.is("three decisions", triangle.report(7), 3);
    }

    private static void searchAlone() {
        // Of the variables with the fewest values the first one; a fixed one has fewer, but is not decided.
        SupportSolver solver = Check.solver("var a 3 3;var b 0 4;var c 1 3;var d 2 4;var e 0 2;");
        solver.search(1);
        Check.is("c is decided", solver.decision(0), 21);
        solver.search(1);
        Check.is("then d", solver.decision(1), 32);
    }

    private static void searchWrongly() {
        SupportSolver solver = Check.solver(FOUR);
        for (int decisions : new int[] {0, -1, 101, Integer.MIN_VALUE, Integer.MAX_VALUE}) {
            Check.isThrown("search " + decisions, Check.ARGUMENT, () -> solver.search(decisions));
        }
        reports(solver, 4, 6, 0, 0, 0, 0, 0, 0);
        Check.is("search 100", solver.search(100), SupportSolver.NONE);
        Check.isThrown("search 0 after a failure", Check.ARGUMENT, () -> solver.search(0));
    }

    private static void restart() {
        SupportSolver solver = Check.solver("var a 0 3;var b 0 3;var c 0 3;var d 0 3;less a b;differ c d;");
        solver.forbid(0, 1);
        solver.decide(2, 1);
        solver.decide(0, 2);
        Check.is("restart", solver.restart(), 2);
        reports(solver, 4, 2, 0, 3, 0, 0, 0, 2);
        Check.is("again", solver.restart(), 0);
        SupportSolver four = Check.solver(FOUR);
        four.decide(0, 0);
        four.decide(1, 1);
        Check.is("restart from a failure with decisions", four.restart(), 2);
        reports(four, 4, 6, 0, 0, 0, 0, 0, 2);
        four.decide(0, 0);
        four.decide(1, 1);
        four.learn();
        Check.is("a set", four.report(4), 1);
        Check.is("restart at level 1", four.restart(), 1);
        Check.is("no sets", four.report(4), 0);
        Check.is("the forgotten set takes no part", four.decide(0, 0), 5);
        Check.is("decisions", four.report(7), 5);
        SupportSolver failed = Check.solver("var a 1 1;var b 1 1;less a b;");
        Check.is("restart from a failure without decisions", failed.restart(), 0);
        Check.is("that stays", failed.report(5), 1);
        Check.is("and so do the facts", failed.report(3), 1);
    }
}
