import java.util.ArrayList;
import java.util.List;
import java.util.function.Consumer;

/** The boundary cases of promises 1 to 6: the new object, the text buffer, loading, the latest error. */
final class TextEdges {
    private static final int BLANKS = 0x20202020;
    private static final String PAIR = "var a 0 2;var b 0 2;less a b;";
    private static final String TRIANGLE = "var a 0 1;var b 0 1;var c 0 1;differ a b;differ b c;differ a c;";

    private TextEdges() {
    }

    private static int appendBlanks(SupportSolver solver) {
        return solver.append(BLANKS, BLANKS, BLANKS, BLANKS, BLANKS);
    }

    /** A new solver with so many blanks in its buffer. */
    private static SupportSolver blanks(int length) {
        SupportSolver solver = new SupportSolver();
        for (int i = 0; i < length; i += 20) {
            appendBlanks(solver);
        }
        solver.truncate(length);
        return solver;
    }

    private static SupportSolver withText(String text) {
        SupportSolver solver = new SupportSolver();
        Check.put(solver, text);
        return solver;
    }

    private static void loadFails(SupportSolver solver, String text, int code, int position) {
        Check.put(solver, text);
        Check.isThrown("load of " + text, Check.ARGUMENT, solver::load);
        Check.is("errorCode", solver.errorCode(), code);
        Check.is("errorPosition", solver.errorPosition(), position);
    }

    // ---- promise 1

    static void promise01_aNewObjectReportsZeroes() {
        Check.same("reports", Shown.reports(new SupportSolver()), "0 0 0 0 0 0 0 0");
    }

    static void promise01_aNewObjectHasAnEmptyBuffer() {
        Check.is("truncate(0)", new SupportSolver().truncate(0), 0);
        Check.refused(Check.INDEX, SupportSolver::new, solver -> solver.truncate(1));
        Check.is("the first append", appendBlanks(new SupportSolver()), 20);
    }

    static void promise01_aNewObjectSolvesTheEmptyText() {
        SupportSolver solver = new SupportSolver();
        Check.is("solutions", solver.solutions(), 1);
        Check.is("overlooked", solver.overlooked(), 0);
        Check.is("search", solver.search(1), 1);
        Check.is("restart", solver.restart(), 0);
        Check.same("nothing has changed", Shown.all(solver), Shown.all(new SupportSolver()));
    }

    static void promise01_aNewObjectIsLikeOneThatLoadedTheEmptyText() {
        SupportSolver solver = new SupportSolver();
        Check.is("load", solver.load(), 0);
        Check.same("all", Shown.all(solver), Shown.all(new SupportSolver()));
    }

    static void promise01_aNewObjectHasNoVariablesConstraintsFactsDecisionsOrSets() {
        List<Consumer<SupportSolver>> calls = new ArrayList<>(List.of(s -> s.domain(0), s -> s.constraint(0, 0),
                s -> s.fact(0, 0), s -> s.factOf(0, 0), s -> s.explanationSize(0), s -> s.explained(0, 0),
                s -> s.depth(0), s -> s.isSupported(0, 0, 0), s -> s.support(0, 0, 0, 0), s -> s.watchers(0, 0)));
        calls.addAll(List.of(s -> s.tuples(0), s -> s.tightness(0), s -> s.first(0), s -> s.possible(0),
                s -> s.forbid(0, 0), s -> s.decide(0, 0), s -> s.decision(0), s -> s.probe(0, 0),
                s -> s.learnt(0, 0)));
        for (Consumer<SupportSolver> call : calls) {
            Check.refused(Check.INDEX, SupportSolver::new, call);
        }
        Check.refused(Check.STATE, SupportSolver::new, SupportSolver::back);
        Check.refused(Check.STATE, SupportSolver::new, SupportSolver::learn);
    }

    static void promise01_objectsShareNothing() {
        SupportSolver one = Check.solver(TRIANGLE);
        SupportSolver other = Check.solver(PAIR);
        Check.put(one, "var x");
        one.search(1);
        Check.same("the other one's reports", Shown.reports(other), "2 1 0 2 0 0 0 0");
        Check.is("the other one's buffer", Shown.length(other), 0);
        Check.is("the other one's solutions", other.solutions(), 3);
        Check.is("its own solutions", one.solutions(), 0);
    }

    // ---- promise 2

    static void promise02_thirtyAppendsFillTheBuffer() {
        SupportSolver solver = new SupportSolver();
        for (int length = 20; length <= 600; length += 20) {
            Check.is("append", appendBlanks(solver), length);
        }
    }

    static void promise02_aFullBufferRefusesMore() {
        Check.refused(Check.STATE, () -> blanks(600), solver -> solver.append(1, 2, 3, 4, 5));
    }

    static void promise02_580BytesLeaveRoomForTheLast20() {
        Check.is("append", appendBlanks(blanks(580)), 600);
    }

    static void promise02_581BytesDoNotLeaveRoomFor20() {
        for (int length = 581; length < 600; length++) {
            int it = length;
            Check.refused(Check.STATE, () -> blanks(it), solver -> solver.append(1, 2, 3, 4, 5));
        }
    }

    static void promise02_aRefusedAppendLeavesTheText() {
        SupportSolver solver = withText(PAIR + " ".repeat(600 - PAIR.length()));
        Check.isThrown("append", Check.STATE, () -> solver.append(-1, -1, -1, -1, -1));
        Check.is("load", solver.load(), 2);
    }

    static void promise02_theMostSignificantByteComesFirst() {
        for (int position = 0; position < 20; position++) {
            int[] words = {BLANKS, BLANKS, BLANKS, BLANKS, BLANKS};
            // '?' starts no token.
            words[position / 4] ^= (' ' ^ '?') << 24 - 8 * (position % 4);
            SupportSolver solver = new SupportSolver();
            solver.append(words[0], words[1], words[2], words[3], words[4]);
            Check.isThrown("load", Check.ARGUMENT, solver::load);
            Check.is("the position of the wrong byte", solver.errorPosition(), position);
        }
    }

    static void promise02_bytesOver127DoNotReachTheirNeighbours() {
        for (int position = 0; position < 20; position++) {
            int[] words = {BLANKS, BLANKS, BLANKS, BLANKS, BLANKS};
            words[position / 4] |= 0xff << 24 - 8 * (position % 4);
            SupportSolver solver = new SupportSolver();
            Check.is("length", solver.append(words[0], words[1], words[2], words[3], words[4]), 20);
            Check.isThrown("load", Check.ARGUMENT, solver::load);
            Check.is("the position of the byte 255", solver.errorPosition(), position);
        }
    }

    static void promise02_allBitsAndNoBits() {
        for (int word : new int[] {-1, 0, Integer.MIN_VALUE, Integer.MAX_VALUE}) {
            SupportSolver solver = new SupportSolver();
            Check.is("append", solver.append(word, word, word, word, word), 20);
            Check.isThrown("load", Check.ARGUMENT, solver::load);
            Check.is("errorCode", solver.errorCode(), 1);
            Check.is("errorPosition", solver.errorPosition(), 0);
        }
    }

    static void promise02_theLast20BytesAreRead() {
        SupportSolver solver = blanks(580);
        // "                   ?"
        solver.append(BLANKS, BLANKS, BLANKS, BLANKS, 0x2020203f);
        Check.isThrown("load", Check.ARGUMENT, solver::load);
        Check.is("errorPosition", solver.errorPosition(), 599);
    }

    static void promise02_appendGoesOnBehindATruncatedText() {
        SupportSolver solver = withText("var a 0 1;var b 0 1;");
        solver.truncate(10);
        // "var c 0 1;var d 0 1;"
        Check.is("append", solver.append(0x76617220, 0x63203020, 0x313b7661, 0x72206420, 0x3020313b), 30);
        solver.load();
        Check.is("variables", solver.report(0), 3);
    }

    static void promise02_theBufferIsFreeAgainAfterLoad() {
        SupportSolver solver = blanks(600);
        solver.load();
        Check.is("append", appendBlanks(solver), 20);
    }

    // ---- promise 3

    static void promise03_minusOneIsRefused() {
        Check.refused(Check.INDEX, () -> withText(PAIR), solver -> solver.truncate(-1));
        Check.refused(Check.INDEX, SupportSolver::new, solver -> solver.truncate(-1));
        Check.refused(Check.INDEX, () -> withText(PAIR), solver -> solver.truncate(Integer.MIN_VALUE));
    }

    static void promise03_oneMoreThanTheLengthIsRefused() {
        int length = PAIR.length();
        Check.refused(Check.INDEX, () -> withText(PAIR), solver -> solver.truncate(length + 1));
        Check.refused(Check.INDEX, () -> withText(PAIR), solver -> solver.truncate(Integer.MAX_VALUE));
        Check.refused(Check.INDEX, () -> blanks(600), solver -> solver.truncate(601));
    }

    static void promise03_theLengthItselfIsAllowed() {
        SupportSolver solver = withText(PAIR);
        Check.is("truncate", solver.truncate(PAIR.length()), PAIR.length());
        Check.is("load", solver.load(), 2);
        Check.is("600", blanks(600).truncate(600), 600);
    }

    static void promise03_zeroIsAllowed() {
        SupportSolver solver = withText("var ?");
        Check.is("truncate", solver.truncate(0), 0);
        Check.is("load of nothing", solver.load(), 0);
        Check.is("truncate of an empty buffer", solver.truncate(0), 0);
    }

    static void promise03_everyLengthBelowIsAllowedAndNoneComesBack() {
        SupportSolver solver = withText(PAIR);
        for (int length = PAIR.length() - 1; length >= 0; length--) {
            int before = length + 1;
            Check.is("truncate", solver.truncate(length), length);
            Check.isThrown("truncate to the length before", Check.INDEX, () -> solver.truncate(before));
        }
    }

    static void promise03_whatIsCutOffIsNoText() {
        SupportSolver solver = withText("var a 0 1;var b 0 1;");
        solver.truncate(14);
        Check.isThrown("load", Check.ARGUMENT, solver::load);
        Check.is("errorCode", solver.errorCode(), 1);
        Check.is("the end is at the length", solver.errorPosition(), 14);
    }

    static void promise03_theProblemAndTheErrorStay() {
        SupportSolver solver = Check.solver(PAIR);
        loadFails(solver, "var", 1, 3);
        String before = Shown.state(solver);
        Check.put(solver, "var a 0 1;");
        solver.truncate(4);
        Check.same("the state", Shown.state(solver), before);
        Check.is("errorCode", solver.errorCode(), 1);
        Check.is("errorPosition", solver.errorPosition(), 3);
    }

    // ---- promise 4

    static void promise04_noFacts() {
        Check.is("load", withText("var a 0 4;").load(), 0);
        Check.is("load of nothing", new SupportSolver().load(), 0);
        Check.is("load of blanks", blanks(600).load(), 0);
    }

    static void promise04_theFactsOfPropagationAreCounted() {
        Check.is("load", withText(PAIR).load(), 2);
    }

    static void promise04_theFactsUpToAFailureAreCounted() {
        SupportSolver solver = withText("var a 0 1;var b 0 0;less a b;");
        Check.is("load", solver.load(), 2);
        Check.same("reports", Shown.reports(solver), "2 1 0 2 0 1 1 0");
    }

    static void promise04_aTextOf600Bytes() {
        String start = "var a 0 2;";
        String end = "var b 3 3;";
        SupportSolver solver = withText(start + " ".repeat(580) + end);
        Check.is("load", solver.load(), 0);
        Check.same("domains", Shown.domains(solver), "7 8");
        SupportSolver cut = withText(start + "\n".repeat(581) + "var b 3 3");
        Check.isThrown("load of 600 bytes without the last semicolon", Check.ARGUMENT, cut::load);
        Check.is("the end", cut.errorPosition(), 600);
    }

    static void promise04_everythingBeginsAnew() {
        SupportSolver solver = Check.solver("var x 0 1;" + TRIANGLE);
        solver.decide(0, 1);
        solver.decide(1, 0);
        solver.learn();
        Check.is("a level, a set", solver.report(2) * 10 + solver.report(4), 11);
        Check.put(solver, PAIR);
        solver.load();
        Check.same("all", Shown.all(solver), Shown.all(Check.solver(PAIR)));
    }

    static void promise04_theSameTextBeginsAnew() {
        SupportSolver solver = Check.solver(PAIR);
        solver.forbid(1, 1);
        solver.decide(0, 0);
        Check.put(solver, PAIR);
        Check.is("load", solver.load(), 2);
        Check.same("all", Shown.all(solver), Shown.all(Check.solver(PAIR)));
    }

    static void promise04_aFailureDoesNotOutliveLoad() {
        SupportSolver solver = Check.solver("var a 1 1;var b 1 1;less a b;");
        solver.load();
        Check.same("all", Shown.all(solver), Shown.all(new SupportSolver()));
    }

    static void promise04_namesOfEarlierTextsAreForgotten() {
        SupportSolver solver = Check.solver("var a 0 1;var b 0 1;");
        loadFails(solver, "less a b;", 3, 5);
        loadFails(solver, "var z 0 1;?", 1, 10);
        loadFails(solver, "var y 0 1;less y z;", 3, 17);
        Check.put(solver, "var z 0 1;var a 0 1;");
        Check.is("they are free again", solver.load(), 0);
    }

    static void promise04_theBufferIsEmptyAfterARightText() {
        SupportSolver solver = Check.solver(PAIR);
        Check.is("length", Shown.length(solver), 0);
        Check.isThrown("truncate(1)", Check.INDEX, () -> solver.truncate(1));
    }

    static void promise04_theBufferIsEmptyAfterAWrongText() {
        SupportSolver solver = new SupportSolver();
        loadFails(solver, "var a 0 1;var a", 3, 14);
        Check.is("length", Shown.length(solver), 0);
        Check.is("load", solver.load(), 0);
        Check.is("variables", solver.report(0), 0);
    }

    static void promise04_everythingElseStaysAfterAWrongText() {
        String text = "var x 0 1;" + TRIANGLE;
        for (String wrong : new String[] {"?", "var a 0 1", "var a 5 5;", "less a b;", "var a 0 1;var b 0 1;less a b;x",
            "var a 0 1;".repeat(8)}) {
            SupportSolver solver = Check.solver(text);
            solver.decide(0, 1);
            solver.decide(1, 0);
            solver.learn();
            String before = Shown.state(solver);
            Check.put(solver, wrong);
            Check.isThrown("load of " + wrong, Check.ARGUMENT, solver::load);
            Check.same("the state", Shown.state(solver), before);
            Check.is("the failure can still be learnt from", solver.learn(), 0);
        }
    }

    static void promise04_domainsAndSolutionsOfANewProblemWithTheOldDomains() {
        SupportSolver solver = Check.solver("var a 0 1;var b 0 1;");
        Check.is("solutions", solver.solutions(), 4);
        Check.put(solver, "var a 0 1;var b 0 1;differ a b;");
        solver.load();
        Check.is("solutions of the new problem", solver.solutions(), 2);
    }

    // ---- promises 5 and 6

    static void promise05_zeroBeforeAnyCall() {
        Check.is("errorCode", new SupportSolver().errorCode(), 0);
    }

    static void promise05_zeroAfterARightText() {
        Check.is("errorCode", Check.solver(PAIR).errorCode(), 0);
    }

    static void promise05_zeroAgainAfterARightText() {
        SupportSolver solver = new SupportSolver();
        loadFails(solver, "?", 1, 0);
        solver.load();
        Check.is("errorCode", solver.errorCode(), 0);
    }

    static void promise05_eachOfTheFourCodes() {
        loadFails(new SupportSolver(), ";", 1, 0);
        loadFails(new SupportSolver(), "var a 5 5;", 2, 6);
        loadFails(new SupportSolver(), "less a b;", 3, 5);
        loadFails(new SupportSolver(), "var a 0 1;var b 0 1;var c 0 1;var d 0 1;var e 0 1;var f 0 1;var g 0 1;var", 4,
                70);
    }

    static void promise05_theLatestErrorCounts() {
        SupportSolver solver = new SupportSolver();
        loadFails(solver, "var a 5 5;", 2, 6);
        loadFails(solver, "less a b;", 3, 5);
        loadFails(solver, "", 0);
    }

    /** The empty text is right. */
    private static void loadFails(SupportSolver solver, String text, int code) {
        Check.put(solver, text);
        Check.is("load", solver.load(), 0);
        Check.is("errorCode", solver.errorCode(), code);
        Check.is("errorPosition", solver.errorPosition(), SupportSolver.NONE);
    }

    static void promise05_itStaysThroughOtherCalls() {
        SupportSolver solver = Check.solver(PAIR);
        loadFails(solver, "var a 5 5;", 2, 6);
        solver.search(1);
        solver.restart();
        Check.put(solver, PAIR);
        Check.isThrown("a refused call", Check.STATE, solver::back);
        Check.is("errorCode", solver.errorCode(), 2);
        Check.is("errorPosition", solver.errorPosition(), 6);
    }

    static void promise06_noneBeforeAnyCall() {
        Check.is("errorPosition", new SupportSolver().errorPosition(), SupportSolver.NONE);
    }

    static void promise06_noneAfterARightText() {
        Check.is("errorPosition", Check.solver(PAIR).errorPosition(), SupportSolver.NONE);
    }

    static void promise06_noneAgainAfterARightText() {
        SupportSolver solver = new SupportSolver();
        loadFails(solver, "?", 1, 0);
        solver.load();
        Check.is("errorPosition", solver.errorPosition(), SupportSolver.NONE);
    }

    static void promise06_theFirstByteAndTheEndOfAFullText() {
        loadFails(new SupportSolver(), "?" + " ".repeat(599), 1, 0);
        loadFails(new SupportSolver(), " ".repeat(599) + "?", 1, 599);
        loadFails(new SupportSolver(), "var" + " ".repeat(597), 1, 600);
    }

    static void promise06_theEndOfAShortText() {
        loadFails(new SupportSolver(), "var", 1, 3);
        loadFails(new SupportSolver(), "var ", 1, 4);
    }
}
