import java.util.function.Supplier;

/** The boundary cases of promises 29 to 32, and those of DECISIONS AND LEARNT SETS that are about learnt sets. */
final class LearnEdges {
    /** One of p and q is 1, so not both a and b can be 1, nor both a and c; propagation does not see it at once. */
    static final String TWO_SETS = "var a 0 1;var b 0 1;var c 0 1;var p 0 1;var q 0 1;var e 0 1;differ p q;"
            + "counts a b p q value 1 0 2;counts a c p q value 1 0 2;differ a e;";
    /** Each two of the first five variables that are both 0, or both 1, fail when they are decided. */
    private static final String MANY_SETS = "var a 0 2;var b 0 2;var x 0 2;var y 0 2;var z 0 2;var p 0 1;var q 0 1;"
            + "differ p q;counts a b x y z p q value 1 0 2 value 0 0 2;counts b x y value 0 0 1 value 2 0 1;";
    private static final int[][] TWELVE = {{1, 11}, {1, 41}, {41, 11}, {11, 21}, {11, 31}, {21, 31}, {0, 10}, {0, 20},
        {0, 30}, {0, 40}, {40, 10}, {40, 20}};
    private static final String ELEVEN_TOLD = "[1 41][11 41][11 21][11 31][21 31][0 10][0 20][0 30][0 40][10 40]"
            + "[20 40]";
    private static final int[] FAR = {Integer.MIN_VALUE, -2, -1, Integer.MAX_VALUE};
    private static final String TRIANGLE = "var a 0 1;var b 0 1;var c 0 1;differ a b;differ b c;differ a c;";
    private static final String FAILED = "var a 1 1;var b 1 1;var c 0 1;less a b;";
    /** Any five that are 1 fail, but no four. */
    private static final String FIVE = "var a 0 1;var b 0 1;var c 0 1;var d 0 1;var e 0 1;var p 0 1;var q 0 1;"
            + "differ p q;counts a b c d e p q value 1 0 5;";

    private LearnEdges() {
    }

    private static Supplier<SupportSolver> of(String text) {
        return () -> Check.solver(text);
    }

    private static void decide(SupportSolver solver, int... told) {
        for (int it : told) {
            solver.decide(it / 10, it % 10);
        }
    }

    private static SupportSolver decided(String text, int... told) {
        SupportSolver solver = Check.solver(text);
        decide(solver, told);
        return solver;
    }

    /** At level 1, a = 1, with the sets [1 21][1 11]. */
    static SupportSolver twoSets() {
        SupportSolver solver = decided(TWO_SETS, 1, 21);
        solver.learn();
        solver.decide(1, 1);
        solver.learn();
        return solver;
    }

    /** At level 0, with twelve sets. */
    static SupportSolver twelveSets() {
        SupportSolver solver = Check.solver(MANY_SETS);
        for (int[] pair : TWELVE) {
            decide(solver, pair);
            Check.is("learn", solver.learn(), 2);
            solver.back();
        }
        return solver;
    }

    /** Twelve sets and a thirteenth one, learnt above z = 2 and a = 1; the set that has gone took b's 1 before. */
    static SupportSolver pushedOut() {
        SupportSolver solver = twelveSets();
        decide(solver, 42, 1, 21);
        Check.is("learn", solver.learn(), 2);
        return solver;
    }

    // ---- promise 29

    static void promise29_theSolverHasNotFailed() {
        Check.refused(Check.STATE, SupportSolver::new, SupportSolver::learn);
        Check.refused(Check.STATE, of(TRIANGLE), SupportSolver::learn);
        Check.refused(Check.STATE, () -> decided(TWO_SETS, 1), SupportSolver::learn);
    }

    static void promise29_thereAreNoDecisions() {
        Check.refused(Check.STATE, of(FAILED), SupportSolver::learn);
        SupportSolver solver = Check.solver(TRIANGLE);
        solver.search(100);
        Check.isThrown("after a search without a solution", Check.STATE, solver::learn);
    }

    static void promise29_aSetOfOne() {
        SupportSolver solver = decided(TRIANGLE, 0);
        Check.is("learn", solver.learn(), 1);
        Check.same("sets", Shown.sets(solver), "[0]");
    }

    static void promise29_aSetOfNone() {
        SupportSolver solver = decided("var x 0 1;" + TRIANGLE, 1, 10);
        Check.is("learn", solver.learn(), 1);
        Check.is("learn", solver.learn(), 0);
        Check.same("sets", Shown.sets(solver), "[10][]");
        Check.same("reports", Shown.reports(solver), "4 3 0 4 2 1 2 2");
    }

    static void promise29_aSetOfFive() {
        SupportSolver solver = decided(FIVE, 41, 11, 31, 1);
        Check.is("four do not fail", solver.report(5), 0);
        solver.decide(2, 1);
        Check.is("learn", solver.learn(), 5);
        Check.same("by ascending variables", Shown.sets(solver), "[1 11 21 31 41]");
        Check.same("the latest decision is taken back", Shown.decisions(solver), "41 11 31 1");
        Check.same("its value goes", Shown.facts(solver, 4), "21:100@4");
    }

    static void promise29_theLatestDecisionIsTakenBackAndPropagationFollows() {
        SupportSolver solver = decided(TWO_SETS, 1, 21);
        Check.same("facts", Shown.facts(solver), "00:-1@1 51:3@1 20:-1@2 31:2@2 41:2@2 30:0@2");
        Check.is("learn", solver.learn(), 2);
        Check.same("facts", Shown.facts(solver), "00:-1@1 51:3@1 21:100@1");
        Check.same("reports", Shown.reports(solver), "6 4 1 3 1 0 3 2");
    }

    static void promise29_propagationMayFailAgain() {
        SupportSolver solver = decided("var a 0 2;var b 0 2;var c 0 2;var d 0 2;"
                + "differ a b;differ a c;differ a d;differ b c;differ b d;differ c d;", 12, 1);
        Check.is("learn", solver.learn(), 2);
        Check.is("failed at level 1", solver.report(2) * 10 + solver.report(5), 11);
        Check.is("learn", solver.learn(), 1);
        Check.same("sets", Shown.sets(solver), "[1 12][12]");
        Check.same("reports", Shown.reports(solver), "4 6 0 1 2 0 0 2");
    }

    static void decisions_theFirstDecisionIsLeftOutFirst() {
        String text = "var x 0 2;var y 0 2;var z 0 2;var p 0 2;var q 0 2;"
                + "differ p q;differ z p;differ z q;differ x p;differ x q;differ y p;differ y q;";
        SupportSolver solver = decided(text, 1, 11, 20);
        Check.is("learn", solver.learn(), 2);
        Check.same("x is left out", Shown.sets(solver), "[11 20]");
        SupportSolver other = decided(text, 11, 1, 20);
        Check.is("learn", other.learn(), 2);
        Check.same("y is left out", Shown.sets(other), "[1 20]");
    }

    static void decisions_theLatestDecisionMayBeLeftOut() {
        // After back() nothing is propagated: what fails at the next decision does not need that decision.
        SupportSolver solver = decided("var x 0 1;" + TRIANGLE, 1, 10);
        solver.learn();
        solver.back();
        solver.decide(0, 1);
        Check.is("failed", solver.report(5), 1);
        Check.is("learn", solver.learn(), 0);
        Check.same("sets", Shown.sets(solver), "[10][]");
    }

    static void decisions_factsOfLevel0CountForTheFailure() {
        SupportSolver solver = Check.solver("var a 0 3;var b 0 3;var c 0 3;var d 0 3;var x 0 1;"
                + "differ a b;differ a c;differ a d;differ b c;differ b d;differ c d;");
        solver.forbid(2, 3);
        solver.forbid(3, 3);
        decide(solver, 40, 0, 11);
        Check.is("failed", solver.report(5), 1);
        Check.is("learn", solver.learn(), 2);
        Check.same("sets", Shown.sets(solver), "[0 11]");
    }

    static void decisions_factsOfHigherLevelsDoNotCountForTheFailure() {
        SupportSolver solver = twoSets();
        solver.back();
        // c = 1 takes a's 1 by the first set, so b = 1 does not fail; both are needed for nothing.
        decide(solver, 11, 1 + 20);
        Check.same("facts", Shown.facts(solver), "10:-1@1 01:100@1 50:3@1 20:-1@2");
        Check.is("not failed", solver.report(5), 0);
    }

    static void decisions_ifAllTogetherDoNotFailItIsAllOfThem() {
        SupportSolver solver = pushedOut();
        Check.same("decisions", Shown.decisions(solver), "42 1");
        Check.same("facts", Shown.facts(solver), "40:-1@1 41:-1@1 00:-1@2 02:-1@2 11:100@2 21:100@2 30:2@2 32:2@2"
                + " 10:1@2 20:1@2 51:1@2 61:1@2 12:2@2");
        Check.is("failed", solver.report(5), 1);
        // Without the set that has gone b = 1 is possible: z = 2 is not left out, though it has no part in the failure.
        Check.is("learn", solver.learn(), 2);
        Check.same("the latest set", Shown.set(solver, 11), "1 42");
    }

    static void decisions_twelveSetsAreKept() {
        SupportSolver solver = twelveSets();
        Check.is("sets", solver.report(4), 12);
        Check.same("sets", Shown.sets(solver), "[1 11]" + ELEVEN_TOLD);
        Check.same("facts", Shown.facts(solver), "");
    }

    static void decisions_aThirteenthSetComesBehindAndTheOldestOneGoes() {
        SupportSolver solver = pushedOut();
        Check.is("sets", solver.report(4), 12);
        Check.same("sets", Shown.sets(solver), ELEVEN_TOLD + "[1 21]");
        Check.isThrown("learnt(12, 0)", Check.INDEX, () -> solver.learnt(12, 0));
        solver.learn();
        Check.same("and so does the next one", Shown.sets(solver), ELEVEN_TOLD.substring(6) + "[1 21][1 42]");
    }

    static void decisions_aSetThatHasGoneTakesNoPart() {
        SupportSolver solver = twelveSets();
        solver.decide(0, 1);
        Check.same("with the oldest set", Shown.facts(solver), "00:-1@1 02:-1@1 11:100@1 41:100@1");
        solver = pushedOut();
        solver.back();
        solver.back();
        solver.decide(0, 1);
        Check.same("without it", Shown.facts(solver), "00:-1@1 02:-1@1 41:100@1 21:100@1");
    }

    // ---- promise 30

    static void promise30_theOldestAndTheLatestSet() {
        SupportSolver solver = twelveSets();
        Check.is("the oldest", solver.learnt(0, 0), 1);
        Check.is("the oldest", solver.learnt(0, 1), 11);
        Check.is("the latest", solver.learnt(11, 0), 20);
        Check.is("the latest", solver.learnt(11, 1), 40);
    }

    static void promise30_noSuchSet() {
        for (int set : FAR) {
            Check.refused(Check.INDEX, LearnEdges::twoSets, solver -> solver.learnt(set, 0));
        }
        Check.refused(Check.INDEX, LearnEdges::twoSets, solver -> solver.learnt(2, 0));
        Check.refused(Check.INDEX, of(TWO_SETS), solver -> solver.learnt(0, 0));
        SupportSolver twelve = twelveSets();
        Check.isThrown("learnt(12, 0)", Check.INDEX, () -> twelve.learnt(12, 0));
    }

    static void promise30_noSuchAssignment() {
        for (int index : FAR) {
            Check.refused(Check.INDEX, LearnEdges::twoSets, solver -> solver.learnt(1, index));
        }
        Check.refused(Check.INDEX, LearnEdges::twoSets, solver -> solver.learnt(0, 2));
        Check.refused(Check.INDEX, LearnEdges::twoSets, solver -> solver.learnt(1, 2));
    }

    static void promise30_anEmptySetHasNoAssignment() {
        SupportSolver solver = decided("var x 0 1;" + TRIANGLE, 1, 10);
        solver.learn();
        solver.learn();
        Check.isThrown("learnt(1, 0)", Check.INDEX, () -> solver.learnt(1, 0));
        Check.is("the set before", solver.learnt(0, 0), 10);
    }

    static void promise30_byAscendingVariablesWhateverTheOrderOfTheDecisions() {
        SupportSolver solver = decided(FIVE, 41, 31, 21, 11, 1);
        solver.learn();
        for (int index = 0; index < 5; index++) {
            Check.is("assignment", solver.learnt(0, index), 10 * index + 1);
        }
    }

    // ---- promise 31

    static void promise31_from1To100() {
        Check.is("1", Check.solver("var a 0 1;").search(1), 1);
        Check.is("100", Check.solver("var a 0 1;").search(100), 1);
    }

    static void promise31_zeroAnd101AreRefused() {
        for (int decisions : FAR) {
            Check.refused(Check.ARGUMENT, of(TWO_SETS), solver -> solver.search(decisions));
        }
        Check.refused(Check.ARGUMENT, of(TWO_SETS), solver -> solver.search(0));
        Check.refused(Check.ARGUMENT, of(TWO_SETS), solver -> solver.search(101));
        Check.refused(Check.ARGUMENT, of(FAILED), solver -> solver.search(0));
        Check.refused(Check.ARGUMENT, of("var a 1 1;"), solver -> solver.search(101));
    }

    static void promise31_justEnoughDecisionsAndOneTooFew() {
        SupportSolver solver = Check.solver(ReportEdges.free(1));
        Check.is("six", solver.search(6), 0);
        Check.same("reports", Shown.reports(solver), "7 0 6 6 0 0 6 6");
        SupportSolver enough = Check.solver(ReportEdges.free(1));
        Check.is("seven", enough.search(7), 1);
        Check.same("reports", Shown.reports(enough), "7 0 7 7 0 0 7 7");
    }

    static void promise31_aHundredDecisionsAreMadeAndNoMore() {
        // Four and more, but at most three: propagation sees it only when three or four variables are fixed.
        SupportSolver solver = Check.solver(ReportEdges.free(4)
                + "counts a b c d e f g value 4 0 3;counts a b c d e f g value 4 4 7;");
        Check.is("search", solver.search(100), 0);
        Check.is("decisions", solver.report(7), 100);
        Check.is("sets", solver.report(4), 12);
        Check.is("not failed", solver.report(5), 0);
        Check.is("another search", solver.search(1), 0);
        Check.is("decisions", solver.report(7), 101);
    }

    static void promise31_decisionsOfEarlierSearchesAreNotCountedAgain() {
        SupportSolver solver = Check.solver(ReportEdges.free(1));
        solver.decide(3, 1);
        Check.is("two of six", solver.search(2), 0);
        Check.is("four more", solver.search(4), 1);
        Check.is("decisions in all", solver.report(7), 7);
    }

    static void promise31_allVariablesAreFixed() {
        for (String text : new String[] {"", "var a 2 2;", "var a 0 1;var b 0 1;less a b;"}) {
            SupportSolver solver = Check.solver(text);
            Check.is("search", solver.search(1), 1);
            Check.same("nothing changes", Shown.all(solver), Shown.all(Check.solver(text)));
        }
    }

    static void promise31_failedWithoutDecisions() {
        SupportSolver solver = Check.solver(FAILED);
        Check.is("search", solver.search(100), SupportSolver.NONE);
        Check.same("nothing changes", Shown.all(solver), Shown.all(Check.solver(FAILED)));
    }

    static void promise31_failedWithDecisionsLearnsFirst() {
        SupportSolver solver = decided(TWO_SETS, 1, 21);
        Check.is("search", solver.search(1), 0);
        Check.same("sets", Shown.sets(solver), "[1 21]");
        Check.same("decisions", Shown.decisions(solver), "1 10");
    }

    static void promise31_aFailureOfTheLastDecisionIsStillLearntFrom() {
        Check.is("no solution", Check.solver(TRIANGLE).search(1), SupportSolver.NONE);
        SupportSolver solver = Check.solver("var b 0 1;var p 0 1;var q 0 1;"
                + "differ p q;counts b p q value 0 0 1;counts b p value 1 0 1;");
        Check.is("all are fixed after it", solver.search(1), 1);
        Check.same("reports", Shown.reports(solver), "3 3 0 3 1 0 3 1");
        Check.same("facts", Shown.facts(solver), "00:100@0 11:2@0 20:0@0");
    }

    static void promise31_theFewestValuesThenTheLowestNumberThenTheLeastValue() {
        SupportSolver solver = Check.solver("var a 3 3;var b 0 4;var c 1 3;var d 2 4;var e 3 4;var f 0 1;");
        solver.search(5);
        Check.same("decisions", Shown.decisions(solver), "43 50 21 32 10");
    }

    static void promise31_decisionsThatWereMadeBeforeAreTreatedLikeOthers() {
        SupportSolver solver = decided("var x 0 1;" + TRIANGLE, 1);
        Check.is("search", solver.search(1), SupportSolver.NONE);
        Check.same("reports", Shown.reports(solver), "4 3 0 4 2 1 2 2");
    }

    static void promise31_afterBackNothingIsPropagatedBeforeTheFirstDecision() {
        SupportSolver solver = decided("var x 0 1;" + TRIANGLE, 1, 10);
        solver.learn();
        solver.back();
        Check.is("one decision is made", solver.search(1), SupportSolver.NONE);
        Check.is("decisions", solver.report(7), 3);
    }

    // ---- promise 32

    static void promise32_noDecisions() {
        Check.is("a new object", new SupportSolver().restart(), 0);
        SupportSolver solver = Check.solver(TWO_SETS);
        Check.is("restart", solver.restart(), 0);
        Check.same("nothing changes", Shown.all(solver), Shown.all(Check.solver(TWO_SETS)));
    }

    static void promise32_oneDecisionAndSeven() {
        Check.is("one", decided(TWO_SETS, 1).restart(), 1);
        SupportSolver solver = decided(ReportEdges.free(4), 0, 11, 22, 33, 44, 53, 62);
        Check.is("seven", solver.restart(), 7);
        Check.same("reports", Shown.reports(solver), "7 0 0 0 0 0 0 7");
        Check.same("domains", Shown.domains(solver), "31 31 31 31 31 31 31");
    }

    static void promise32_allSetsAreForgotten() {
        SupportSolver solver = twelveSets();
        Check.is("restart", solver.restart(), 0);
        Check.is("sets", solver.report(4), 0);
        Check.isThrown("learnt(0, 0)", Check.INDEX, () -> solver.learnt(0, 0));
        solver.decide(0, 1);
        Check.same("they take no part", Shown.facts(solver), "00:-1@1 02:-1@1");
    }

    static void promise32_aSetThatIsLearntLaterIsTheOldestOneThen() {
        SupportSolver solver = twelveSets();
        solver.restart();
        decide(solver, 1, 21);
        solver.learn();
        Check.same("sets", Shown.sets(solver), "[1 21]");
    }

    static void promise32_factsOfLevel0Stay() {
        SupportSolver solver = Check.solver("var a 0 3;var b 0 3;less a b;");
        solver.forbid(0, 0);
        solver.decide(0, 1);
        Check.is("restart", solver.restart(), 1);
        Check.same("facts", Shown.facts(solver), "03:0@0 10:0@0 00:-2@0 11:0@0");
        Check.is("decisions that were made stay counted", solver.report(7), 1);
    }

    static void promise32_factsOfLevel0ByASetStay() {
        SupportSolver solver = Check.solver("var b 0 1;var p 0 1;var q 0 1;"
                + "differ p q;counts b p q value 0 0 1;counts b p value 1 0 1;");
        solver.search(1);
        Check.is("restart", solver.restart(), 0);
        Check.same("reports", Shown.reports(solver), "3 3 0 3 0 0 3 1");
        Check.same("facts", Shown.facts(solver), "00:100@0 11:2@0 20:0@0");
    }

    static void promise32_aFailureWithDecisionsGoes() {
        SupportSolver solver = decided(TWO_SETS, 1, 21);
        Check.is("failed", solver.report(5), 1);
        Check.is("restart", solver.restart(), 2);
        Check.same("reports", Shown.reports(solver), "6 4 0 0 0 0 0 2");
    }

    static void promise32_aFailureWithoutDecisionsStays() {
        SupportSolver solver = Check.solver(FAILED);
        Check.is("restart", solver.restart(), 0);
        Check.same("nothing changes", Shown.all(solver), Shown.all(Check.solver(FAILED)));
        SupportSolver searched = Check.solver(TRIANGLE);
        searched.search(1);
        searched.restart();
        Check.same("reports", Shown.reports(searched), "3 3 0 4 0 1 2 1");
    }

    static void promise32_nothingIsPropagated() {
        // The set [10] would remove a = 0 at level 0, but it is forgotten before anything is propagated.
        SupportSolver solver = decided("var x 0 1;" + TRIANGLE, 1, 10);
        solver.learn();
        Check.is("restart", solver.restart(), 1);
        Check.same("reports", Shown.reports(solver), "4 3 0 0 0 0 0 2");
    }
}
