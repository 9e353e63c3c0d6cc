import java.util.function.Supplier;

/** The boundary cases of promises 7 to 14 and of the paragraph THE TRAIL. */
final class ReportEdges {
    private static final int[] FAR = {Integer.MIN_VALUE, -2, -1, Integer.MAX_VALUE};
    /** Two facts: 03:0@0 10:0@0. */
    private static final String PAIR = "var a 0 3;var b 0 3;less a b;differ b a;";
    private static final String COLOURS = "var a 0 2;var b 0 2;var c 0 2;differ a b;differ b c;differ a c;";
    private static final String FAILED = "var a 1 1;var b 1 1;var c 0 1;less a b;differ a c;";
    /** What is decided for one variable runs through all of them. */
    private static final String CHAIN = "var a 0 1;var b 0 1;var c 0 1;var d 0 1;var e 0 1;var f 0 1;var g 0 1;"
            + "differ a b;differ b c;differ c d;differ d e;differ e f;differ f g;";

    private ReportEdges() {
    }

    /** Seven variables, with values from 0 to the greatest one, without constraints. */
    static String free(int greatest) {
        StringBuilder text = new StringBuilder();
        for (char name = 'a'; name <= 'g'; name++) {
            text.append("var ").append(name).append(" 0 ").append(greatest).append(';');
        }
        return text.toString();
    }

    /** The pair at level 1: 03:0@0 10:0@0 00:-1@1 01:-1@1 11:0@1 12:0@1. */
    private static SupportSolver decidedPair() {
        SupportSolver solver = Check.solver(PAIR);
        solver.decide(0, 2);
        return solver;
    }

    private static Supplier<SupportSolver> of(String text) {
        return () -> Check.solver(text);
    }

    // ---- promise 7

    static void promise07_everyReportFrom0To7() {
        Check.same("reports", Shown.reports(decidedPair()), "2 2 1 6 0 0 2 1");
    }

    static void promise07_minusOneAndEightAreRefused() {
        for (int what : FAR) {
            Check.refused(Check.ARGUMENT, ReportEdges::decidedPair, solver -> solver.report(what));
        }
        Check.refused(Check.ARGUMENT, ReportEdges::decidedPair, solver -> solver.report(8));
        Check.refused(Check.ARGUMENT, SupportSolver::new, solver -> solver.report(8));
    }

    static void promise07_noVariablesAndSeven() {
        Check.is("none", Check.solver("").report(0), 0);
        Check.is("seven", Check.solver(free(1)).report(0), 7);
    }

    static void promise07_noConstraintsAndEight() {
        Check.is("none", Check.solver(free(1)).report(1), 0);
        Check.is("eight", Check.solver(free(1) + "less a b;".repeat(8)).report(1), 8);
    }

    static void promise07_levels0To7() {
        SupportSolver solver = Check.solver(free(1));
        for (int level = 0; level < 7; level++) {
            Check.is("level", solver.report(2), level);
            solver.decide(level, 1);
        }
        Check.is("level", solver.report(2), 7);
        Check.is("fixed variables", solver.report(6), 7);
    }

    static void promise07_noFactsAnd28And29() {
        SupportSolver solver = Check.solver(free(4));
        Check.is("no facts", solver.report(3), 0);
        for (int variable = 0; variable < 7; variable++) {
            for (int value = 1; value <= 4; value++) {
                solver.forbid(variable, value);
            }
        }
        Check.same("reports", Shown.reports(solver), "7 0 0 28 0 0 7 0");
        solver.forbid(6, 0);
        Check.same("reports", Shown.reports(solver), "7 0 0 29 0 1 6 0");
        Check.same("the last fact", Shown.facts(solver, 28), "60:-2@0");
    }

    static void promise07_failedAndNotFailed() {
        SupportSolver solver = Check.solver("var a 0 1;var b 0 1;var c 0 1;differ a b;differ b c;differ a c;");
        Check.is("at first", solver.report(5), 0);
        solver.decide(0, 0);
        Check.is("after the decision", solver.report(5), 1);
        solver.back();
        Check.is("after it is taken back", solver.report(5), 0);
        Check.is("at once", Check.solver(FAILED).report(5), 1);
        Check.is("without variables", new SupportSolver().report(5), 0);
    }

    static void promise07_anEmptyDomainIsNotFixed() {
        SupportSolver solver = Check.solver(FAILED);
        Check.same("domains", Shown.domains(solver), "0 2 3");
        Check.is("fixed variables", solver.report(6), 1);
    }

    static void promise07_decisionsAreCountedOnceMade() {
        SupportSolver solver = Check.solver(PAIR);
        Check.is("none", solver.report(7), 0);
        solver.probe(0, 2);
        Check.isThrown("a refused one", Check.ARGUMENT, () -> solver.decide(0, 3));
        Check.is("a probe and a refused decision", solver.report(7), 0);
        solver.decide(0, 2);
        solver.back();
        Check.is("one that was taken back", solver.report(7), 1);
        solver.search(1);
        Check.is("one of a search", solver.report(7), 2);
        solver.restart();
        Check.is("after restart", solver.report(7), 2);
        Check.put(solver, PAIR);
        solver.load();
        Check.is("after load", solver.report(7), 0);
    }

    static void promise07_aDecisionThatFailsIsCounted() {
        SupportSolver solver = Check.solver("var a 0 1;var b 0 1;var c 0 1;differ a b;differ b c;differ a c;");
        solver.decide(0, 0);
        solver.learn();
        Check.same("reports", Shown.reports(solver), "3 3 0 4 1 1 2 1");
    }

    // ---- promise 8

    static void promise08_theFirstAndTheLastVariable() {
        SupportSolver solver = Check.solver(free(4));
        solver.forbid(0, 4);
        solver.forbid(6, 0);
        Check.same("domains", Shown.domains(solver), "15 31 31 31 31 31 30");
    }

    static void promise08_noSuchVariable() {
        for (int variable : FAR) {
            Check.refused(Check.INDEX, of(PAIR), solver -> solver.domain(variable));
        }
        Check.refused(Check.INDEX, of(PAIR), solver -> solver.domain(2));
        Check.refused(Check.INDEX, of(free(1)), solver -> solver.domain(7));
        Check.refused(Check.INDEX, SupportSolver::new, solver -> solver.domain(0));
    }

    static void promise08_theEmptyAndTheFullDomain() {
        Check.is("full", Check.solver("var a 0 4;").domain(0), 31);
        SupportSolver solver = Check.solver("var a 4 4;");
        solver.forbid(0, 4);
        Check.is("empty", solver.domain(0), 0);
    }

    // ---- promise 9

    static void promise09_theFourKinds() {
        SupportSolver solver = Check.solver("var a 0 1;var b 0 1;counts a value 0 0 1;window 1 1 0 1 b;less a b;"
                + "differ b a;");
        for (int kind = 0; kind < 4; kind++) {
            Check.is("kind", solver.constraint(kind, 0), kind);
        }
    }

    static void promise09_oneVariableAndSeven() {
        SupportSolver solver = Check.solver(free(1) + "counts g value 0 0 1;window 1 1 0 1 a;"
                + "counts g f e d c b a value 0 0 7;window 1 1 0 1 b c d e f g a;less g a;");
        int[][] due = {{1, 64}, {1, 1}, {7, 127}, {7, 127}, {2, 65}};
        for (int i = 0; i < due.length; i++) {
            Check.is("number of variables", solver.constraint(i, 1), due[i][0]);
            Check.is("set of variables", solver.constraint(i, 2), due[i][1]);
        }
    }

    static void promise09_factsOfThisConstraintAlone() {
        SupportSolver solver = Check.solver("var a 0 3;var b 0 3;less a b;" + "differ a b;".repeat(6) + "less a b;");
        Check.is("of the first one", solver.constraint(0, 3), 2);
        Check.is("of the last one", solver.constraint(7, 3), 0);
        solver.forbid(0, 0);
        Check.is("what is forbidden is not counted, what follows is", solver.constraint(0, 3), 3);
        solver.decide(0, 2);
        Check.same("facts", Shown.facts(solver), "03:0@0 10:0@0 00:-2@0 11:0@0 01:-1@1 12:0@1");
        Check.is("what is decided is not counted, what follows is", solver.constraint(0, 3), 4);
        solver.back();
        Check.is("what went is not counted", solver.constraint(0, 3), 3);
        SupportSolver last = Check.solver("var a 0 3;var b 0 3;" + "differ a b;".repeat(7) + "less a b;");
        Check.is("of the last one", last.constraint(7, 3), 2);
    }

    static void promise09_noSuchConstraint() {
        for (int constraint : FAR) {
            Check.refused(Check.INDEX, of(PAIR), solver -> solver.constraint(constraint, 0));
        }
        Check.refused(Check.INDEX, of(PAIR), solver -> solver.constraint(2, 0));
        Check.refused(Check.INDEX, of(free(1) + "less a b;".repeat(8)), solver -> solver.constraint(8, 0));
        Check.refused(Check.INDEX, SupportSolver::new, solver -> solver.constraint(0, 3));
        Check.refused(Check.INDEX, of(PAIR), solver -> solver.constraint(100, 3));
    }

    static void promise09_minusOneAndFourAreNoReports() {
        for (int what : FAR) {
            Check.refused(Check.ARGUMENT, of(PAIR), solver -> solver.constraint(1, what));
        }
        Check.refused(Check.ARGUMENT, of(PAIR), solver -> solver.constraint(0, 4));
    }

    // ---- promise 10

    static void promise10_theFirstAndTheLastFact() {
        Check.same("facts", Shown.facts(decidedPair()), "03:0@0 10:0@0 00:-1@1 01:-1@1 11:0@1 12:0@1");
    }

    static void promise10_noSuchFact() {
        for (int index : FAR) {
            Check.refused(Check.INDEX, ReportEdges::decidedPair, solver -> solver.fact(index, 0));
        }
        Check.refused(Check.INDEX, ReportEdges::decidedPair, solver -> solver.fact(6, 0));
        Check.refused(Check.INDEX, of("var a 0 1;"), solver -> solver.fact(0, 0));
    }

    static void promise10_aFactThatWent() {
        SupportSolver solver = decidedPair();
        solver.back();
        Check.isThrown("fact(2, 0)", Check.INDEX, () -> solver.fact(2, 0));
        Check.is("fact(1, 0)", solver.fact(1, 0), 1);
    }

    static void promise10_minusOneAndFourAreNoReports() {
        for (int what : FAR) {
            Check.refused(Check.ARGUMENT, ReportEdges::decidedPair, solver -> solver.fact(5, what));
        }
        Check.refused(Check.ARGUMENT, ReportEdges::decidedPair, solver -> solver.fact(0, 4));
    }

    // ---- promise 11

    static void promise11_theFirstAndTheLastFact() {
        SupportSolver solver = decidedPair();
        Check.is("factOf(0, 3)", solver.factOf(0, 3), 0);
        Check.is("factOf(1, 2)", solver.factOf(1, 2), 5);
    }

    static void promise11_values0And4() {
        SupportSolver solver = Check.solver(free(4));
        solver.forbid(6, 4);
        solver.forbid(6, 0);
        Check.is("factOf(6, 4)", solver.factOf(6, 4), 0);
        Check.is("factOf(6, 0)", solver.factOf(6, 0), 1);
        Check.isThrown("the same value of the variable before", Check.ELEMENT, () -> solver.factOf(5, 4));
    }

    static void promise11_noSuchVariable() {
        for (int variable : FAR) {
            Check.refused(Check.INDEX, of(PAIR), solver -> solver.factOf(variable, 3));
        }
        Check.refused(Check.INDEX, of(PAIR), solver -> solver.factOf(2, 0));
        Check.refused(Check.INDEX, of(free(1)), solver -> solver.factOf(7, 0));
    }

    static void promise11_minusOneAndFiveAreNoValues() {
        for (int value : FAR) {
            Check.refused(Check.ARGUMENT, of(PAIR), solver -> solver.factOf(1, value));
        }
        Check.refused(Check.ARGUMENT, of(PAIR), solver -> solver.factOf(0, 5));
    }

    static void promise11_aValueThatIsStillThere() {
        Check.refused(Check.ELEMENT, of(PAIR), solver -> solver.factOf(0, 2));
    }

    static void promise11_aValueThatNeverWasThere() {
        Check.refused(Check.ELEMENT, of(PAIR), solver -> solver.factOf(0, 4));
    }

    static void promise11_aFactThatWent() {
        SupportSolver solver = decidedPair();
        solver.back();
        Check.isThrown("factOf(1, 2)", Check.ELEMENT, () -> solver.factOf(1, 2));
    }

    // ---- promise 12

    static void promise12_emptyForDecisionsAndForbid() {
        SupportSolver solver = Check.solver(CHAIN);
        solver.forbid(3, 0);
        Check.is("forbidden", solver.explanationSize(0), 0);
        SupportSolver decided = Check.solver(CHAIN);
        decided.decide(3, 0);
        Check.is("decided", decided.explanationSize(0), 0);
    }

    static void promise12_emptyWhenTheInitialDomainsAreEnough() {
        SupportSolver solver = Check.solver(PAIR);
        Check.is("the first fact", solver.explanationSize(0), 0);
        Check.is("a fact behind another one of the constraint", solver.explanationSize(1), 0);
    }

    static void promise12_oneFactAndMore() {
        SupportSolver solver = Check.solver(COLOURS);
        solver.decide(0, 0);
        Check.same("facts", Shown.facts(solver), "01:-1@1 02:-1@1 10:0@1 20:2@1");
        Check.is("two facts", solver.explanationSize(2), 2);
        SupportSolver chain = Check.solver(CHAIN);
        chain.decide(0, 0);
        Check.is("one fact", chain.explanationSize(6), 1);
    }

    static void promise12_noSuchFact() {
        for (int index : FAR) {
            Check.refused(Check.INDEX, ReportEdges::decidedPair, solver -> solver.explanationSize(index));
        }
        Check.refused(Check.INDEX, ReportEdges::decidedPair, solver -> solver.explanationSize(6));
        Check.refused(Check.INDEX, of("var a 0 1;"), solver -> solver.explanationSize(0));
    }

    static void promise12_aFactThatWentAndAnotherInItsPlace() {
        SupportSolver solver = Check.solver(CHAIN);
        solver.decide(0, 0);
        Check.is("b by a", solver.explanationSize(1), 1);
        solver.back();
        Check.isThrown("explanationSize(1)", Check.INDEX, () -> solver.explanationSize(1));
        SupportSolver two = Check.solver("var a 0 1;var b 0 2;differ a b;");
        two.decide(0, 0);
        Check.same("b = 0 by the lost a = 1", Shown.explanation(two, 1), "0");
        two.back();
        two.decide(1, 0);
        Check.same("facts", Shown.facts(two), "11:-1@1 12:-1@1 00:0@1");
        Check.same("a decision", Shown.explanation(two, 1), "");
        Check.same("a = 0 by both", Shown.explanation(two, 2), "0 1");
    }

    // ---- promise 13

    static void promise13_theFirstAndTheLastOfAnExplanation() {
        SupportSolver solver = Check.solver(COLOURS);
        solver.decide(0, 0);
        Check.is("the first", solver.explained(2, 0), 0);
        Check.is("the last", solver.explained(2, 1), 1);
    }

    static void promise13_notSoManyFacts() {
        Supplier<SupportSolver> decided = () -> {
            SupportSolver solver = Check.solver(COLOURS);
            solver.decide(0, 0);
            return solver;
        };
        for (int k : FAR) {
            Check.refused(Check.INDEX, decided, solver -> solver.explained(2, k));
        }
        Check.refused(Check.INDEX, decided, solver -> solver.explained(2, 2));
        Check.refused(Check.INDEX, decided, solver -> solver.explained(0, 0));
    }

    static void promise13_noSuchFact() {
        for (int index : FAR) {
            Check.refused(Check.INDEX, ReportEdges::decidedPair, solver -> solver.explained(index, 0));
        }
        Check.refused(Check.INDEX, ReportEdges::decidedPair, solver -> solver.explained(6, 0));
        Check.refused(Check.INDEX, of("var a 0 1;"), solver -> solver.explained(0, 0));
    }

    static void promise13_inTheOrderOfTheTrail() {
        SupportSolver solver = Check.solver(COLOURS);
        solver.decide(0, 0);
        solver.decide(1, 1);
        Check.same("facts", Shown.facts(solver, 4), "12:-1@2 21:1@2");
        Check.same("c = 1 by b's lost 0 and 2", Shown.explanation(solver, 5), "2 4");
    }

    // ---- promise 14

    static void promise14_zeroWithAnEmptyExplanation() {
        SupportSolver solver = decidedPair();
        for (int index : new int[] {0, 1, 2, 3}) {
            Check.is("depth", solver.depth(index), 0);
        }
    }

    static void promise14_oneMoreThanTheGreatestDepth() {
        SupportSolver solver = Check.solver(COLOURS);
        solver.decide(0, 0);
        solver.decide(1, 1);
        Check.is("by depths 1 and 0", solver.depth(5), 2);
        Check.is("by depths 0 and 0", solver.depth(3), 1);
        Check.is("a decision", solver.depth(4), 0);
    }

    static void promise14_upToSix() {
        SupportSolver solver = Check.solver(CHAIN);
        Check.is("decide", solver.decide(0, 0), 7);
        Check.same("facts", Shown.facts(solver), "01:-1@1 10:0@1 21:1@1 30:2@1 41:3@1 50:4@1 61:5@1");
        for (int index = 6; index >= 0; index--) {
            Check.is("depth", solver.depth(index), index);
        }
    }

    static void promise14_noSuchFact() {
        for (int index : FAR) {
            Check.refused(Check.INDEX, ReportEdges::decidedPair, solver -> solver.depth(index));
        }
        Check.refused(Check.INDEX, ReportEdges::decidedPair, solver -> solver.depth(6));
        Check.refused(Check.INDEX, of("var a 0 1;"), solver -> solver.depth(0));
    }

    // ---- THE TRAIL

    static void theTrail_theReasonsOfTheFirstAndTheLastConstraint() {
        SupportSolver solver = Check.solver("var a 0 1;var b 0 1;var c 0 1;var d 0 0;differ c d;"
                + "differ a b;".repeat(6) + "less a b;");
        Check.same("facts", Shown.facts(solver), "20:0@0 01:7@0 10:7@0");
    }

    static void theTrail_theReasonsOfDecisionsForbidAndSets() {
        SupportSolver solver = Check.solver("var x 0 1;var a 0 1;var b 0 1;var c 0 2;"
                + "differ a b;differ b c;differ a c;");
        // c = 0 or c = 1 fails; the set with it removes the value then.
        solver.decide(0, 1);
        solver.decide(3, 0);
        Check.same("facts", Shown.facts(solver), "00:-1@1 31:-1@2 32:-1@2 20:1@2 10:2@2 11:0@2");
        Check.is("learn", solver.learn(), 1);
        Check.same("facts", Shown.facts(solver), "00:-1@1 30:100@1");
        solver.restart();
        solver.forbid(3, 1);
        Check.same("facts", Shown.facts(solver), "31:-2@0");
    }

    static void theTrail_theLevelIsTheNumberOfDecisions() {
        SupportSolver solver = Check.solver(free(1));
        solver.forbid(0, 0);
        for (int variable = 1; variable < 7; variable++) {
            solver.decide(variable, 0);
        }
        Check.same("facts", Shown.facts(solver), "00:-2@0 11:-1@1 21:-1@2 31:-1@3 41:-1@4 51:-1@5 61:-1@6");
    }

    static void theTrail_theLatestFactsAreLeftOutFirst() {
        // At most one 1: c = 1 goes as soon as a or b is 1, and the fact about b is the later one.
        SupportSolver solver = Check.solver("var x 0 0;var a 0 1;var b 0 1;var c 0 1;"
                + "differ x a;differ x b;counts c a b value 1 0 1;");
        Check.same("facts", Shown.facts(solver), "10:0@0 20:1@0 30:2@0 31:2@0");
        Check.same("c = 0", Shown.explanation(solver, 2), "0 1");
        Check.same("c = 1", Shown.explanation(solver, 3), "0");
        Check.is("depth", solver.depth(3), 1);
    }

    static void theTrail_factsAboutOtherVariablesAreNoPartOfIt() {
        SupportSolver solver = Check.solver(CHAIN);
        solver.decide(0, 0);
        Check.same("c by b, not by a", Shown.explanation(solver, 2), "1");
    }

    static void theTrail_laterFactsAreNoPartOfIt() {
        SupportSolver solver = Check.solver("var a 0 2;var b 0 2;differ a b;");
        solver.decide(0, 0);
        solver.decide(1, 2);
        Check.same("facts", Shown.facts(solver), "01:-1@1 02:-1@1 10:0@1 11:-1@2");
        Check.same("b = 0", Shown.explanation(solver, 2), "0 1");
    }

    static void theTrail_theInitialDomainsAreNoFacts() {
        SupportSolver solver = Check.solver("var a 1 2;var b 2 3;less b a;");
        Check.same("facts", Shown.facts(solver), "12:0@0 13:0@0");
        Check.same("b = 2", Shown.explanation(solver, 0), "");
        Check.same("b = 3", Shown.explanation(solver, 1), "");
    }

    static void theTrail_eachSetExplainsItsOwnFacts() {
        // The sets [11 31] and [21 31], with older and later ones about other variables.
        SupportSolver solver = LearnEdges.twelveSets();
        solver.decide(3, 1);
        Check.same("facts", Shown.facts(solver), "30:-1@1 32:-1@1 11:100@1 21:100@1");
        Check.same("b = 1", Shown.explanation(solver, 2), "0 1");
        Check.same("x = 1", Shown.explanation(solver, 3), "0 1");
        Check.is("facts by sets are facts of no constraint", solver.constraint(0, 3) + solver.constraint(1, 3), 0);
    }

    static void theTrail_aSetOfOneExplainsWithoutFacts() {
        SupportSolver solver = Check.solver("var x 0 1;var a 0 1;var b 0 1;var c 0 2;"
                + "differ a b;differ b c;differ a c;");
        solver.decide(3, 0);
        solver.learn();
        solver.forbid(0, 0);
        Check.same("facts", Shown.facts(solver), "30:100@0 00:-2@0");
        Check.same("c = 0", Shown.explanation(solver, 0), "");
        Check.is("its depth", solver.depth(0), 0);
    }

    static void theTrail_aSetThatIsForgottenStillExplains() {
        SupportSolver solver = Check.solver("var a 0 2;var b 0 2;var c 0 2;var d 0 2;"
                + "differ a b;differ a c;differ a d;differ b c;differ b d;differ c d;");
        solver.decide(0, 0);
        solver.decide(1, 1);
        solver.learn();
        solver.back();
        solver.forbid(0, 1);
        solver.forbid(0, 2);
        Check.same("a fact by the set at level 0", Shown.facts(solver, 5).substring(0, 8), "11:100@0");
        solver.restart();
        Check.is("no sets", solver.report(4), 0);
        Check.same("its explanation", Shown.explanation(solver, 5), "0 1");
        Check.is("its depth", solver.depth(5), 1);
    }

    static void theTrail_aSetThatWasPushedOutStillExplains() {
        SupportSolver solver = LearnEdges.pushedOut();
        Check.same("the fact by the oldest set", Shown.facts(solver, 4).substring(0, 8), "11:100@2");
        Check.same("its explanation", Shown.explanation(solver, 4), "2 3");
        Check.is("its depth", solver.depth(4), 1);
    }
}
