import java.util.function.Supplier;

/** The boundary cases of promises 15 to 19 and of the paragraph CONSTRAINTS. */
final class SupportEdges {
    private static final int[] FAR = {Integer.MIN_VALUE, -2, -1, Integer.MAX_VALUE};
    /** a from 0 to 2, b from 1 to 3 after propagation; c is in no constraint with a. */
    private static final String PAIR = "var a 0 3;var b 0 3;var c 0 4;less a b;differ b c;";
    /** a is empty; propagation stopped before it came to c, of which the 0 alone has a support in "less c b". */
    private static final String FAILED = "var a 1 1;var b 1 1;var c 0 2;less a b;less c b;differ c a;";

    private SupportEdges() {
    }

    private static Supplier<SupportSolver> of(String text) {
        return () -> Check.solver(text);
    }

    /** Whether an assignment to a and b, and no more, fulfils a constraint: else propagation fails at once. */
    private static void fulfils(boolean due, int a, int b, String constraint) {
        String text = "var a " + a + " " + a + ";var b " + b + " " + b + ";" + constraint;
        Check.is(text, Check.solver(text).report(5), due ? 0 : 1);
    }

    // ---- CONSTRAINTS

    static void constraints_countsFromTheLeastToTheGreatestNumber() {
        for (int zeros = 0; zeros <= 7; zeros++) {
            StringBuilder text = new StringBuilder();
            for (int i = 0; i < 7; i++) {
                text.append("var ").append((char) ('a' + i)).append(i < zeros ? " 0 0;" : " 1 1;");
            }
            for (int least = 0; least <= 7; least++) {
                for (int greatest = least; greatest <= 7; greatest++) {
                    String counts = "counts a b c d e f g value 0 " + least + " " + greatest + ";";
                    Check.is(zeros + " zeros, " + counts, Check.solver(text + counts).report(5),
                            zeros >= least && zeros <= greatest ? 0 : 1);
                }
            }
        }
    }

    static void constraints_countsOfEachValue() {
        for (int value = 0; value <= 4; value++) {
            for (int a = 0; a <= 4; a++) {
                for (int b = 0; b <= 4; b++) {
                    int number = (a == value ? 1 : 0) + (b == value ? 1 : 0);
                    fulfils(number == 1, a, b, "counts a b value " + value + " 1 1;");
                    fulfils(number == 0, a, b, "counts a b value " + value + " 0 0;");
                }
            }
        }
    }

    static void constraints_allCountsMustHold() {
        for (int a = 0; a <= 4; a++) {
            for (int b = 0; b <= 4; b++) {
                fulfils(a + b == 1, a, b, "counts a b value 0 1 1 value 1 1 1;");
            }
        }
    }

    static void constraints_moreThanThereAreVariablesIsNeverReached() {
        Check.is("two of one", Check.solver("var a 0 1;counts a value 0 2 7;").report(5), 1);
        Check.is("seven of six", Check.solver(ReportEdges.free(0) + "counts a b c d e f value 0 7 7;").report(5), 1);
        Check.is("seven of seven", Check.solver(ReportEdges.free(0) + "counts a b c d e f g value 0 7 7;").report(5),
                0);
        Check.is("at most seven of one", Check.solver("var a 0 0;counts a value 0 0 7;").report(5), 0);
    }

    static void constraints_countsThatNeedMoreThanThereIsRoomFor() {
        Check.is("two and two of three", Check.solver("var a 0 1;var b 0 1;var c 0 1;"
                + "counts a b c value 0 2 3 value 1 2 3;").report(5), 1);
        Check.is("two and one of three", Check.solver("var a 0 1;var b 0 1;var c 0 1;"
                + "counts a b c value 0 2 3 value 1 1 3;").report(5), 0);
        Check.is("room for two of three", Check.solver("var a 0 1;var b 0 1;var c 0 1;"
                + "counts a b c value 0 0 1 value 1 0 1;").report(5), 1);
        Check.is("room for three of three", Check.solver("var a 0 1;var b 0 1;var c 0 1;"
                + "counts a b c value 0 0 1 value 1 0 2;").report(5), 0);
    }

    static void constraints_windowsOfEachWidthAndBounds() {
        for (int pattern = 0; pattern < 16; pattern++) {
            StringBuilder text = new StringBuilder();
            for (int i = 0; i < 4; i++) {
                String value = (pattern >> i & 1) == 1 ? " 1 1;" : " 0 0;";
                text.append("var ").append((char) ('a' + i)).append(value);
            }
            for (int bounds = 0; bounds < 4 * 25; bounds++) {
                int width = bounds / 25 + 1;
                int least = bounds / 5 % 5;
                int greatest = bounds % 5;
                if (least <= greatest && greatest <= width) {
                    String window = "window " + width + " 2 " + least + " " + greatest + " a b c d;";
                    Check.is(text + window, Check.solver(text + window).report(5),
                            areGroupsRight(pattern, width, least, greatest) ? 0 : 1);
                }
            }
        }
    }

    private static boolean areGroupsRight(int pattern, int width, int least, int greatest) {
        boolean areRight = true;
        for (int start = 0; start + width <= 4; start++) {
            int number = Integer.bitCount(pattern >> start & (1 << width) - 1);
            areRight &= number >= least && number <= greatest;
        }
        return areRight;
    }

    static void constraints_fewerVariablesThanTheWidthMakeNoGroup() {
        String three = "var a 0 0;var b 0 0;var c 0 0;";
        Check.is("three of four", Check.solver(three + "window 4 2 4 4 a b c;").report(3), 0);
        Check.is("three of three", Check.solver(three + "window 3 2 3 3 a b c;").report(5), 1);
        Check.is("two of three", Check.solver(three + "window 3 2 3 3 c a;").report(3), 0);
        Check.is("one of two", Check.solver(three + "window 2 2 2 2 b;").report(3), 0);
        Check.is("one of one", Check.solver(three + "window 1 2 1 1 b;").report(5), 1);
        SupportSolver solver = Check.solver(three + "window 4 2 4 4 a b c;");
        Check.is("tuples", solver.tuples(0), 1);
        Check.is("tightness", solver.tightness(0), 0.0);
    }

    static void constraints_groupsOfAWindowFollowTheOrderOfTheText() {
        String text = "var a 1 1;var b 0 0;var c 1 1;";
        Check.is("a b c", Check.solver(text + "window 2 2 1 1 a b c;").report(5), 0);
        Check.is("a c b", Check.solver(text + "window 2 2 1 1 a c b;").report(5), 1);
        Check.is("c b a", Check.solver(text + "window 2 2 1 1 c b a;").report(5), 0);
        Check.is("b c a", Check.solver(text + "window 2 2 1 1 b c a;").report(5), 1);
    }

    static void constraints_theLastGroupOfSevenVariables() {
        String six = "var a 0 0;var b 0 0;var c 0 0;var d 0 0;var e 0 0;var f 0 0;";
        Check.is("g is in the last group", Check.solver(six + "var g 1 1;window 4 2 0 0 a b c d e f g;").report(5), 1);
        Check.is("all groups", Check.solver(six + "var g 0 0;window 4 2 0 0 a b c d e f g;").report(5), 0);
    }

    static void constraints_everySetOfAWindow() {
        for (int set = 1; set <= 31; set++) {
            for (int value = 0; value <= 4; value++) {
                boolean isIn = (set >> value & 1) == 1;
                fulfils(isIn, value, 0, "window 1 " + set + " 1 1 a;");
                fulfils(!isIn, 0, value, "window 1 " + set + " 0 0 b;");
            }
        }
    }

    static void constraints_lessAndDifferOfEachPair() {
        for (int a = 0; a <= 4; a++) {
            for (int b = 0; b <= 4; b++) {
                fulfils(a < b, a, b, "less a b;");
                fulfils(b < a, a, b, "less b a;");
                fulfils(a != b, a, b, "differ a b;");
                fulfils(a != b, a, b, "differ b a;");
            }
        }
    }

    static void constraints_aSetIsFulfilledUnlessAllItsAssignmentsHold() {
        SupportSolver solver = LearnEdges.twoSets();
        solver.back();
        Check.same("sets", Shown.sets(solver), "[1 21][1 11]");
        solver.decide(1, 1);
        Check.same("a = 1 goes when b = 1 holds", Shown.facts(solver), "10:-1@1 01:100@1 50:3@1");
        solver.back();
        solver.decide(1, 0);
        Check.same("and stays when b = 0", Shown.facts(solver), "11:-1@1");
    }

    static void constraints_theLeastSupportTakesTheVariablesInTheOrderOfTheConstraint() {
        String text = "var a 0 1;var b 0 1;var c 0 1;";
        SupportSolver solver = Check.solver(text + "counts c b a value 1 1 2;counts a b c value 1 1 2;");
        Check.is("c", solver.support(0, 0, 0, 2), 0);
        Check.is("b", solver.support(0, 0, 0, 1), 1);
        Check.is("a", solver.support(0, 0, 0, 0), 0);
        Check.is("b, then c: c", solver.support(1, 0, 0, 2), 1);
        Check.is("b, then c: b", solver.support(1, 0, 0, 1), 0);
    }

    // ---- promise 15

    static void promise15_trueAndFalse() {
        SupportSolver solver = Check.solver(PAIR);
        Check.is("a = 2", solver.isSupported(0, 0, 2), true);
        Check.is("b = 1", solver.isSupported(0, 1, 1), true);
        Check.is("c = 4", solver.isSupported(1, 2, 4), true);
        Check.is("c = 0", solver.isSupported(1, 2, 0), true);
    }

    static void promise15_aValueThatIsNotInTheDomain() {
        SupportSolver solver = Check.solver(PAIR);
        Check.is("a = 3, removed", solver.isSupported(0, 0, 3), false);
        Check.is("a = 4, never there", solver.isSupported(0, 0, 4), false);
        Check.is("b = 0, removed, in the other constraint", solver.isSupported(1, 1, 0), false);
    }

    static void promise15_aValueOfTheDomainWithoutSupport() {
        SupportSolver solver = Check.solver(FAILED);
        Check.is("domain of c", solver.domain(2), 7);
        Check.is("c = 0", solver.isSupported(1, 2, 0), true);
        Check.is("c = 1", solver.isSupported(1, 2, 1), false);
        Check.is("c = 2", solver.isSupported(1, 2, 2), false);
        Check.is("b = 1 in the constraint of the empty domain", solver.isSupported(0, 1, 1), false);
        Check.is("c = 0 in the constraint of the empty domain", solver.isSupported(2, 2, 0), false);
        Check.is("a = 1", solver.isSupported(0, 0, 1), false);
    }

    static void promise15_noSuchConstraint() {
        for (int constraint : FAR) {
            Check.refused(Check.INDEX, of(PAIR), solver -> solver.isSupported(constraint, 0, 0));
        }
        Check.refused(Check.INDEX, of(PAIR), solver -> solver.isSupported(2, 1, 1));
        Check.refused(Check.INDEX, of(ReportEdges.free(1) + "less a b;".repeat(8)),
                solver -> solver.isSupported(8, 0, 0));
        Check.refused(Check.INDEX, of("var a 0 1;"), solver -> solver.isSupported(0, 0, 0));
    }

    static void promise15_noneOfItsVariables() {
        for (int variable : FAR) {
            Check.refused(Check.INDEX, of(PAIR), solver -> solver.isSupported(0, variable, 0));
        }
        Check.refused(Check.INDEX, of(PAIR), solver -> solver.isSupported(0, 2, 0));
        Check.refused(Check.INDEX, of(PAIR), solver -> solver.isSupported(1, 0, 0));
        Check.refused(Check.INDEX, of(PAIR), solver -> solver.isSupported(0, 3, 0));
        Check.refused(Check.INDEX, of(ReportEdges.free(1) + "counts a b c d e f g value 0 0 7;"),
                solver -> solver.isSupported(0, 7, 0));
    }

    static void promise15_minusOneAndFiveAreNoValues() {
        for (int value : FAR) {
            Check.refused(Check.ARGUMENT, of(PAIR), solver -> solver.isSupported(0, 0, value));
        }
        Check.refused(Check.ARGUMENT, of(PAIR), solver -> solver.isSupported(0, 0, 5));
        Check.refused(Check.ARGUMENT, of(PAIR), solver -> solver.isSupported(1, 2, 64));
    }

    // ---- promise 16

    static void promise16_theValueItselfAndTheOthers() {
        SupportSolver solver = Check.solver(PAIR);
        Check.is("a = 2: a", solver.support(0, 0, 2, 0), 2);
        Check.is("a = 2: b", solver.support(0, 0, 2, 1), 3);
        Check.is("b = 3: a", solver.support(0, 1, 3, 0), 0);
        Check.is("c = 4: b", solver.support(1, 2, 4, 1), 1);
        Check.is("c = 1: b", solver.support(1, 2, 1, 1), 2);
    }

    static void promise16_thereIsNoSupport() {
        Check.refused(Check.ELEMENT, of(PAIR), solver -> solver.support(0, 0, 3, 1));
        Check.refused(Check.ELEMENT, of(PAIR), solver -> solver.support(0, 0, 4, 0));
        Check.refused(Check.ELEMENT, of(FAILED), solver -> solver.support(1, 2, 1, 2));
        Check.refused(Check.ELEMENT, of(FAILED), solver -> solver.support(0, 1, 1, 1));
        Check.refused(Check.ELEMENT, of(FAILED), solver -> solver.support(0, 0, 1, 1));
        Check.is("beside it", Check.solver(FAILED).support(1, 2, 0, 1), 1);
    }

    static void promise16_noSuchConstraint() {
        for (int constraint : FAR) {
            Check.refused(Check.INDEX, of(PAIR), solver -> solver.support(constraint, 0, 0, 0));
        }
        Check.refused(Check.INDEX, of(PAIR), solver -> solver.support(2, 1, 1, 1));
        Check.refused(Check.INDEX, of("var a 0 1;"), solver -> solver.support(0, 0, 0, 0));
    }

    static void promise16_noneOfItsVariables() {
        for (int variable : FAR) {
            Check.refused(Check.INDEX, of(PAIR), solver -> solver.support(0, variable, 0, 0));
            Check.refused(Check.INDEX, of(PAIR), solver -> solver.support(0, 0, 0, variable));
        }
        Check.refused(Check.INDEX, of(PAIR), solver -> solver.support(0, 2, 0, 0));
        Check.refused(Check.INDEX, of(PAIR), solver -> solver.support(0, 0, 0, 2));
        Check.refused(Check.INDEX, of(PAIR), solver -> solver.support(0, 3, 0, 0));
        Check.refused(Check.INDEX, of(PAIR), solver -> solver.support(0, 0, 0, 3));
    }

    static void promise16_minusOneAndFiveAreNoValues() {
        for (int value : FAR) {
            Check.refused(Check.ARGUMENT, of(PAIR), solver -> solver.support(0, 0, value, 1));
        }
        Check.refused(Check.ARGUMENT, of(PAIR), solver -> solver.support(0, 0, 5, 1));
    }

    // ---- promise 17

    static void promise17_theOtherVariablesAlone() {
        SupportSolver solver = Check.solver("var a 0 1;counts a value 0 0 1;");
        Check.is("a constraint of one variable", solver.watchers(0, 0), 0);
        SupportSolver pair = Check.solver("var a 0 1;var b 0 1;differ a b;");
        Check.is("b = 1 needs a = 0", pair.watchers(0, 0), 1);
    }

    static void promise17_allConstraintsTogether() {
        SupportSolver solver = Check.solver("var a 0 1;var b 0 1;" + "differ a b;".repeat(8));
        Check.is("eight times", solver.watchers(0, 0), 8);
        Check.is("eight times", solver.watchers(1, 1), 8);
    }

    static void promise17_noConstraintOfTheVariable() {
        SupportSolver solver = Check.solver("var a 0 1;var b 0 1;var c 0 1;differ a b;");
        Check.is("c = 0", solver.watchers(2, 0), 0);
    }

    static void promise17_aValueThatIsNotInTheDomain() {
        SupportSolver solver = Check.solver(PAIR);
        Check.is("a = 3", solver.watchers(0, 3), 0);
        Check.is("a = 4", solver.watchers(0, 4), 0);
        Check.is("a = 0: b = 1, 2, 3", solver.watchers(0, 0), 3);
    }

    static void promise17_valuesWithoutASupportDoNotCount() {
        SupportSolver solver = Check.solver(FAILED);
        Check.is("b = 1: c = 0", solver.watchers(1, 1), 1);
        Check.is("c = 0: b = 1", solver.watchers(2, 0), 1);
        Check.is("a = 1", solver.watchers(0, 1), 0);
    }

    static void promise17_learntSetsDoNotCount() {
        SupportSolver solver = LearnEdges.twoSets();
        solver.back();
        SupportSolver fresh = Check.solver(LearnEdges.TWO_SETS);
        Check.same("domains", Shown.domains(solver), Shown.domains(fresh));
        for (int variable = 0; variable < 6; variable++) {
            for (int value = 0; value <= 4; value++) {
                Check.is("watchers", solver.watchers(variable, value), fresh.watchers(variable, value));
            }
        }
    }

    static void promise17_noSuchVariable() {
        for (int variable : FAR) {
            Check.refused(Check.INDEX, of(PAIR), solver -> solver.watchers(variable, 0));
        }
        Check.refused(Check.INDEX, of(PAIR), solver -> solver.watchers(3, 0));
        Check.refused(Check.INDEX, of(ReportEdges.free(1)), solver -> solver.watchers(7, 0));
    }

    static void promise17_minusOneAndFiveAreNoValues() {
        for (int value : FAR) {
            Check.refused(Check.ARGUMENT, of(PAIR), solver -> solver.watchers(0, value));
        }
        Check.refused(Check.ARGUMENT, of(PAIR), solver -> solver.watchers(0, 5));
    }

    // ---- promise 18

    static void promise18_noneAndAll() {
        Check.is("an empty domain", Check.solver(FAILED).tuples(0), 0);
        Check.is("none that fulfils it", Check.solver("var a 1 1;var b 1 1;var c 1 2;less a b;less c b;").tuples(1), 0);
        String five = ReportEdges.free(4);
        Check.is("all", Check.solver(five + "counts a b c d e f g value 0 0 7;").tuples(0), 78125);
        Check.is("all but one", Check.solver(five + "counts a b c d e f g value 0 0 6;").tuples(0), 78124);
        Check.is("all but one of four", Check.solver(five + "window 4 1 0 3 g f e d;").tuples(0), 624);
        Check.is("all that are less", Check.solver("var a 0 4;var b 0 4;less a b;").tuples(0), 10);
        Check.is("all that differ", Check.solver("var a 0 4;var b 0 4;differ a b;").tuples(0), 20);
        Check.is("one", Check.solver("var a 0 0;counts a value 0 1 1;").tuples(0), 1);
    }

    static void promise18_ofThePresentDomains() {
        SupportSolver solver = Check.solver(PAIR);
        Check.is("at level 0", solver.tuples(0), 6);
        solver.decide(0, 1);
        Check.is("at level 1", solver.tuples(0), 2);
        Check.is("the other one", solver.tuples(1), 8);
        solver.back();
        Check.is("at level 0 again", solver.tuples(0), 6);
    }

    static void promise18_anEmptyDomainOfAnotherVariable() {
        Check.is("b = 1, c = 0", Check.solver(FAILED).tuples(1), 1);
    }

    static void promise18_noSuchConstraint() {
        for (int constraint : FAR) {
            Check.refused(Check.INDEX, of(PAIR), solver -> solver.tuples(constraint));
        }
        Check.refused(Check.INDEX, of(PAIR), solver -> solver.tuples(2));
        Check.refused(Check.INDEX, of(ReportEdges.free(1) + "less a b;".repeat(8)), solver -> solver.tuples(8));
        Check.refused(Check.INDEX, of("var a 0 1;"), solver -> solver.tuples(0));
    }

    // ---- promise 19

    static void promise19_zeroAndOne() {
        Check.is("all fulfil it", Check.solver("var a 0 1;var b 2 3;less a b;").tightness(0), 0.0);
        Check.is("none fulfils it", Check.solver("var a 1 1;var b 1 1;var c 1 2;less a b;less c b;").tightness(1), 1.0);
    }

    static void promise19_fractions() {
        SupportSolver solver = Check.solver(PAIR);
        Check.is("3 of 9", solver.tightness(0), 3.0 / 9.0);
        Check.is("3 of 15", solver.tightness(1), 3.0 / 15.0);
        String five = ReportEdges.free(4);
        Check.is("one of all", Check.solver(five + "counts a b c d e f g value 0 0 6;").tightness(0), 1.0 / 78125.0);
        Check.is("all but seven", Check.solver(ReportEdges.free(1) + "counts a b c d e f g value 0 1 1;").tightness(0),
                121.0 / 128.0);
    }

    static void promise19_anEmptyDomainOfOneOfItsVariables() {
        Check.refused(Check.STATE, of(FAILED), solver -> solver.tightness(0));
        Check.refused(Check.STATE, of(FAILED), solver -> solver.tightness(2));
    }

    static void promise19_anEmptyDomainOfAnotherVariable() {
        Check.is("two of three", Check.solver(FAILED).tightness(1), 2.0 / 3.0);
    }

    static void promise19_noSuchConstraint() {
        for (int constraint : FAR) {
            Check.refused(Check.INDEX, of(PAIR), solver -> solver.tightness(constraint));
        }
        Check.refused(Check.INDEX, of(PAIR), solver -> solver.tightness(2));
        Check.refused(Check.INDEX, of(ReportEdges.free(1) + "less a b;".repeat(8)), solver -> solver.tightness(8));
    }
}
