/** Promises 15 to 19: supports, watchers, tuples and tightness. */
public final class SupportTest {
    private static final String PAIR = "var a 0 3;var b 0 3;less a b;differ b a;";
    private static final String ROW = "var a 0 2;var b 0 2;var c 0 2;var d 0 2;";

    public static void main(String[] args) {
        isSupported();
        countsAndWindows();
        support();
        orderOfTheConstraint();
        watchers();
        tuples();
        tightness();
        emptyDomains();
        Check.end();
    }

    private static void isSupported() {
        SupportSolver solver = Check.solver(PAIR);
        Check.is("a = 2 in less", solver.isSupported(0, 0, 2), true);
        Check.is("a = 3, which is removed", solver.isSupported(0, 0, 3), false);
        Check.is("a = 3 in the other constraint", solver.isSupported(1, 0, 3), false);
        Check.is("a = 4, which never was there", solver.isSupported(0, 0, 4), false);
        solver.decide(1, 1);
        Check.is("a = 0 at present", solver.isSupported(0, 0, 0), true);
        Check.is("a = 2 at present", solver.isSupported(0, 0, 2), false);
        solver.back();
        Check.is("a = 2 again", solver.isSupported(0, 0, 2), true);
        Check.isThrown("constraint 2", Check.INDEX, () -> solver.isSupported(2, 0, 0));
        Check.isThrown("constraint -1", Check.INDEX, () -> solver.isSupported(-1, 0, 0));
        Check.isThrown("variable 2", Check.INDEX, () -> solver.isSupported(0, 2, 0));
        Check.isThrown("variable -1", Check.INDEX, () -> solver.isSupported(0, -1, 0));
        Check.isThrown("variable 99", Check.INDEX, () -> solver.isSupported(0, 99, 0));
        Check.isThrown("value 5", Check.ARGUMENT, () -> solver.isSupported(0, 0, 5));
        Check.isThrown("value -1", Check.ARGUMENT, () -> solver.isSupported(0, 0, -1));
        Check.isThrown("value 5 of variable 2", Check.INDEX, () -> solver.isSupported(0, 2, 5));
        SupportSolver three = Check.solver(ROW + "less a b;");
        Check.isThrown("a variable of the problem, not of the constraint", Check.INDEX,
                () -> three.isSupported(0, 2, 0));
        SupportSolver failed = Check.solver("var a 0 1;var b 0 1;var c 0 1;differ a b;differ b c;differ a c;");
        failed.decide(0, 0);
        Check.is("a domain is empty", failed.domain(0), 0);
        Check.is("b = 1 beside the empty domain of a", failed.isSupported(0, 1, 1), false);
        Check.is("b = 1 with c = 0", failed.isSupported(1, 1, 1), true);
    }

    private static void countsAndWindows() {
        SupportSolver solver = Check.solver("var a 0 1;var b 0 1;var c 0 1;var d 0 1;"
                + "counts a b c d value 0 2 2;window 2 1 1 1 a b c d;window 4 2 0 1 a b c;");
        Check.is("no facts", solver.report(3), 0);
        solver.decide(0, 1);
        Check.is("the window fixes all in turn", solver.domain(3), 1);
        Check.is("and all are fixed", solver.report(6), 4);
        Check.is("a window of more variables than there are", solver.tuples(2), 1);
        SupportSolver groups = Check.solver(ROW + "window 3 5 2 2 d c b a;");
        groups.decide(3, 1);
        Check.is("d = 1 is not in the set, so c and b are", groups.domain(2), 5);
        Check.is("b", groups.domain(1), 5);
        Check.is("and a is not", groups.domain(0), 2);
        SupportSolver bounds = Check.solver(ROW + "counts d c b a value 1 3 3 value 2 0 0;");
        Check.is("value 2 goes from all", bounds.report(3), 4);
        Check.is("d loses it first", bounds.fact(0, 0), 3);
        bounds.decide(2, 0);
        Check.is("the others are 1", bounds.domain(0) + 10 * bounds.domain(1) + 100 * bounds.domain(3), 222);
        SupportSolver crowd = Check.solver(ROW + "counts a b c d value 0 0 1 value 1 0 1 value 2 0 1;");
        Check.is("four variables, three places", crowd.report(5), 1);
        Check.is("propagation stops at a", crowd.report(3), 3);
        SupportSolver pair = Check.solver("var a 0 1;var b 0 1;var c 0 2;var d 2 4;"
                + "counts a b c d value 0 0 1 value 1 0 1;");
        Check.is("a and b take 0 and 1 from c", pair.domain(2), 4);
        Check.is("and nothing else goes", pair.report(3), 2);
        SupportSolver needy = Check.solver(ROW + "counts a b c value 0 2 7 value 1 2 7;");
        Check.is("three variables, four are needed", needy.report(5), 1);
    }

    private static void support() {
        SupportSolver solver = Check.solver(PAIR);
        Check.is("least support of a = 1: a", solver.support(0, 0, 1, 0), 1);
        Check.is("least support of a = 1: b", solver.support(0, 0, 1, 1), 2);
        Check.is("least support of b = 3: a", solver.support(0, 1, 3, 0), 0);
        Check.is("least support of a = 1 in differ: b", solver.support(1, 0, 1, 1), 2);
        Check.is("least support of a = 2 in differ: b", solver.support(1, 0, 2, 1), 1);
        Check.isThrown("no support", Check.ELEMENT, () -> solver.support(0, 0, 3, 1));
        Check.isThrown("no such value at all", Check.ELEMENT, () -> solver.support(0, 0, 4, 0));
        Check.isThrown("value 5", Check.ARGUMENT, () -> solver.support(0, 0, 5, 0));
        Check.isThrown("value -1", Check.ARGUMENT, () -> solver.support(0, 1, -1, 0));
        Check.isThrown("other 2", Check.INDEX, () -> solver.support(0, 0, 1, 2));
        Check.isThrown("other -1 and value 9", Check.INDEX, () -> solver.support(0, 0, 9, -1));
        Check.isThrown("variable 2 and value 9", Check.INDEX, () -> solver.support(0, 2, 9, 0));
        Check.isThrown("constraint 2", Check.INDEX, () -> solver.support(2, 0, 0, 0));
        Check.isThrown("constraint -1", Check.INDEX, () -> solver.support(-1, 0, 0, 0));
        solver.decide(1, 3);
        Check.is("the domains of now: b", solver.support(0, 0, 1, 1), 3);
    }

    private static void orderOfTheConstraint() {
        // c comes first in the constraint, so it is c that gets the least value.
        SupportSolver solver = Check.solver(ROW + "counts c b a value 0 2 2;counts a b c value 0 2 2;");
        Check.is("b = 1, first constraint: c", solver.support(0, 1, 1, 2), 0);
        int[][] due = {{1, 0, 0}, {0, 0, 1}};
        for (int i = 0; i < 2; i++) {
            for (int other = 0; other < 3; other++) {
                Check.is("constraint " + i + " d", solver.support(i, 0, due[i][0], other), due[i][other]);
            }
        }
        Check.is("c = 0, first constraint: b", solver.support(0, 2, 0, 1), 0);
        Check.is("c = 0, first constraint: a", solver.support(0, 2, 0, 0), 1);
        Check.is("c = 0, second constraint: a", solver.support(1, 2, 0, 0), 0);
        Check.is("c = 0, second constraint: b", solver.support(1, 2, 0, 1), 1);
        SupportSolver window = Check.solver(ROW + "window 2 6 1 1 d b a;");
        int[] alternating = {0, 1, NONE, 0};
        for (int other : new int[] {0, 1, 3}) {
            Check.is("window, a = 0", window.support(0, 0, 0, other), alternating[other]);
        }
        Check.is("a = 2, b", window.support(0, 0, 2, 1), 0);
        Check.is("a = 2, d", window.support(0, 0, 2, 3), 1);
    }

    private static final int NONE = SupportSolver.NONE;

    private static void watchers() {
        // less: a = 0 by (0 1), 1 by (1 2), 2 by (2 3); b = 1, 2, 3 by (0 .). differ: a = 0, 2 by 1, 1 by 2;
        // b = 1, 2, 3 by 0, but for b = 0, which is removed.
        SupportSolver solver = Check.solver(PAIR);
        int[][] due = {{6, 0, 0, 0, 0}, {0, 3, 2, 1, 0}};
        for (int variable = 0; variable < 2; variable++) {
            for (int value = 0; value < 5; value++) {
                Check.is("watchers " + variable + " " + value, solver.watchers(variable, value), due[variable][value]);
            }
        }
        solver.decide(0, 1);
        Check.is("b = 2 and b = 3, twice", solver.watchers(0, 1), 4);
        Check.is("a removed value has none", solver.watchers(0, 0), 0);
        Check.is("a = 1, twice", solver.watchers(1, 2), 2);
        Check.isThrown("variable 2", Check.INDEX, () -> solver.watchers(2, 0));
        Check.isThrown("variable -1 and value 5", Check.INDEX, () -> solver.watchers(-1, 5));
        Check.isThrown("value 5", Check.ARGUMENT, () -> solver.watchers(0, 5));
        Check.isThrown("value -1", Check.ARGUMENT, () -> solver.watchers(0, -1));
        SupportSolver free = Check.solver(ROW + "differ a b;");
        Check.is("a variable without constraints", free.watchers(2, 0), 0);
        SupportSolver three = Check.solver("var a 0 1;var b 0 1;var c 0 1;counts a b c value 1 1 1;");
        // a = 0 and b = 0 by 0 0 1 and 0 0 1, c = 0 by 0 1 0, a = 1 by 1 0 0, b = 1 by 0 1 0, c = 1 by 0 0 1.
        Check.is("a = 0", three.watchers(0, 0), 4);
        Check.is("c = 1", three.watchers(2, 1), 2);
        Check.is("b = 1", three.watchers(1, 1), 1);
        Check.is("a = 1", three.watchers(0, 1), 0);
        // A learnt set is no constraint.
        SupportSolver learnt = Check.solver("var a 0 2;var b 0 2;var c 0 2;var d 0 2;"
                + "differ a b;differ a c;differ a d;differ b c;differ b d;differ c d;");
        int before = learnt.watchers(0, 0);
        learnt.decide(0, 0);
        learnt.decide(1, 1);
        Check.is("learn", learnt.learn(), 2);
        learnt.back();
        Check.is("no removals by the set", learnt.report(3), 0);
        Check.is("watchers with a learnt set", learnt.watchers(0, 0), before);
    }

    private static void tuples() {
        SupportSolver solver = Check.solver(PAIR);
        Check.is("less", solver.tuples(0), 6);
        Check.is("differ", solver.tuples(1), 7);
        solver.decide(0, 1);
        Check.is("less after a decision", solver.tuples(0), 2);
        Check.isThrown("tuples 2", Check.INDEX, () -> solver.tuples(2));
        Check.isThrown("tuples -1", Check.INDEX, () -> solver.tuples(-1));
        String seven = "var a 0 4;var b 0 4;var c 0 4;var d 0 4;var e 0 4;var f 0 4;var g 0 4;";
        SupportSolver big = Check.solver(seven + "counts a b c d e f g value 0 0 7;"
                + "counts a b c d e f g value 0 1 7;window 1 15 1 1 g f e d c b;window 4 1 0 3 a b c d;");
        Check.is("all assignments", big.tuples(0), 78125 - 5 * 5 * 5 * 5 * 5 * 5 * 5 + 4 * 4 * 4 * 4 * 4 * 4 * 5);
        Check.is("with a 0", big.tuples(1), 20480 - 4 * 3 * 3 * 3 * 3 * 3 * 3);
        Check.is("without a 4", big.tuples(2), 4096);
        Check.is("not all four are 0", big.tuples(3), 5 * 64 - 1);
    }

    private static void tightness() {
        SupportSolver solver = Check.solver(PAIR);
        Check.is("less", solver.tightness(0), 3.0 / 9);
        Check.is("differ", solver.tightness(1), 2.0 / 9);
        solver.decide(1, 3);
        Check.is("all are fulfilled", solver.tightness(0), 0.0);
        Check.isThrown("tightness 2", Check.INDEX, () -> solver.tightness(2));
        Check.isThrown("tightness -1", Check.INDEX, () -> solver.tightness(-1));
        SupportSolver row = Check.solver(ROW + "counts a b c d value 0 1 1 value 1 1 1;");
        Check.is("one 0, one 1, two 2", row.tightness(0), (81 - 12) / 81.0);
    }

    private static void emptyDomains() {
        SupportSolver solver = Check.solver("var a 1 1;var b 1 1;var c 0 2;less a b;differ b c;differ a c;");
        Check.is("failed", solver.report(5), 1);
        Check.is("a is empty", solver.domain(0), 0);
        Check.is("tuples", solver.tuples(0), 0);
        Check.is("tuples of others", solver.tuples(1), 2);
        Check.is("tightness of others", solver.tightness(1), 1.0 / 3);
        Check.isThrown("tightness of a", Check.STATE, () -> solver.tightness(0));
        Check.isThrown("tightness of a second one", Check.STATE, () -> solver.tightness(2));
        Check.isThrown("tightness 3", Check.INDEX, () -> solver.tightness(3));
        Check.is("b = 1 beside the empty a", solver.isSupported(0, 1, 1), false);
        Check.is("a = 1", solver.isSupported(0, 0, 1), false);
        Check.isThrown("c = 0 beside the empty a", Check.ELEMENT, () -> solver.support(2, 2, 0, 2));
        Check.is("c = 0 with b", solver.support(1, 2, 0, 1), 1);
        Check.is("watchers of b = 1", solver.watchers(1, 1), 2);
        Check.is("watchers of a = 1", solver.watchers(0, 1), 0);
    }
}
