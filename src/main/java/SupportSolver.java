import java.util.NoSuchElementException;

/**
 * A solver for small problems with finite domains: at most 7 variables with values from 0 to 4, and at most 8
 * constraints. All objects that calls need are made by the constructor and by load().
 */
public final class SupportSolver {
    public static final int NONE = -1;

    private static final int MAX_VARIABLES = 7;
    private static final int VALUES = 5;
    private static final int MAX_CONSTRAINTS = 8;
    private static final int MAX_SETS = 12;
    private static final int MAX_FACTS = MAX_VARIABLES * VALUES;
    private static final int MAX_SEARCH_DECISIONS = 100;
    // Each step of a search makes a decision or takes one back, so there are at most 100 + 100 + 7 and a last one.
    private static final int MAX_SEARCH_STEPS = 1000;

    private static final int BY_SET = 100;
    private static final int BY_DECISION = -1;
    private static final int BY_FORBID = -2;

    // What narrowed domains still let a constraint be; the least of several verdicts is the one on all of them.
    private static final int NEVER = 0;
    private static final int OPEN = 1;
    private static final int ALWAYS = 2;

    private final TextReader reader = new TextReader();
    private final Trail trail = new Trail();
    private final Trail scratch = new Trail();
    private final LearntSet view = new LearntSet();
    private final Solutions found = new Solutions();
    private final long[] sets = new long[MAX_SETS];
    private Problem problem = new Problem();
    private int setCount = 0;
    private int decisionsMade = 0;

    /** Creates a solver for the empty text, with an empty text buffer. */
    public SupportSolver() {
    }

    // ---- the text

    /** Appends 20 bytes to the text buffer and returns its new length. */
    public int append(int a, int b, int c, int d, int e) throws IllegalStateException {
        if (reader.length + 20 > TextReader.MAX_LENGTH) {
            throw new IllegalStateException("the text buffer is full");
        }
        reader.addFour(a);
        reader.addFour(b);
        reader.addFour(c);
        reader.addFour(d);
        reader.addFour(e);
        return reader.length;
    }

    /** Truncates the text buffer and returns its new length. */
    public int truncate(int length) throws IndexOutOfBoundsException {
        if (length < 0 || length > reader.length) {
            throw new IndexOutOfBoundsException("no such length");
        }
        reader.length = length;
        return length;
    }

    /** Loads the text as a problem, propagates, and returns the number of facts. */
    public int load() throws IllegalArgumentException {
        reader.begin();
        boolean isRight = reader.readVariables() && reader.readConstraints();
        reader.length = 0;
        if (!isRight) {
            throw new IllegalArgumentException("the text has an error");
        }
        problem = reader.problem;
        trail.begin(problem.variables, problem.initial);
        found.isKnown = false;
        setCount = 0;
        decisionsMade = 0;
        propagate(trail);
        return trail.size;
    }

    /** Returns the error code of the latest load(), 0 for none. */
    public int errorCode() {
        return reader.errorCode;
    }

    /** Returns the position of the error of the latest load(), or NONE. */
    public int errorPosition() {
        return reader.errorPosition;
    }

    // ---- reports

    /** Reports on the problem and the present state. */
    public int report(int what) throws IllegalArgumentException {
        switch (what) {
            case 0:
                return problem.variables;
            case 1:
                return problem.constraints;
            case 2:
                return trail.level;
            case 3:
                return trail.size;
            case 4:
                return setCount;
            case 5:
                return trail.hasFailed() ? 1 : 0;
            case 6:
                return fixedVariables();
            case 7:
                return decisionsMade;
            default:
                throw new IllegalArgumentException("no such report");
        }
    }

    private int fixedVariables() {
        int fixed = 0;
        for (int variable = 0; variable < problem.variables; variable++) {
            if (isFixed(variable)) {
                fixed++;
            }
        }
        return fixed;
    }

    private boolean isFixed(int variable) {
        return Integer.bitCount(Pairs.valuesOf(trail.domains, variable)) == 1;
    }

    private boolean isVariable(int variable) {
        return variable >= 0 && variable < problem.variables;
    }

    private static boolean isValue(int value) {
        return value >= 0 && value < VALUES;
    }

    /** Returns the domain of a variable as a bit set. */
    public int domain(int variable) throws IndexOutOfBoundsException {
        if (!isVariable(variable)) {
            throw new IndexOutOfBoundsException("no such variable");
        }
        return Pairs.valuesOf(trail.domains, variable);
    }

    /** Reports on a constraint. */
    public int constraint(int constraint, int what) throws IndexOutOfBoundsException, IllegalArgumentException {
        Constraint it = problem.constraintAt(constraint);
        if (it == null) {
            throw new IndexOutOfBoundsException("no such constraint");
        }
        switch (what) {
            case 0:
                return it.kind;
            case 1:
                return it.size;
            case 2:
                return setOfVariables(it);
            case 3:
                return factsWithReason(constraint);
            default:
                throw new IllegalArgumentException("no such report");
        }
    }

    private static int setOfVariables(Constraint constraint) {
        int set = 0;
        for (int variable = 0; variable < MAX_VARIABLES; variable++) {
            if (constraint.hasVariable(variable)) {
                set |= 1 << variable;
            }
        }
        return set;
    }

    private int factsWithReason(int reason) {
        int count = 0;
        for (int i = 0; i < trail.size; i++) {
            Fact it = trail.factAt(i);
            if (it != null && it.reason == reason) {
                count++;
            }
        }
        return count;
    }

    /** Reports on a fact of the trail. */
    public int fact(int index, int what) throws IndexOutOfBoundsException, IllegalArgumentException {
        Fact it = trail.factAt(index);
        if (it == null) {
            throw new IndexOutOfBoundsException("no such fact");
        }
        switch (what) {
            case 0:
                return it.variable;
            case 1:
                return it.value;
            case 2:
                return it.reason;
            case 3:
                return it.level;
            default:
                throw new IllegalArgumentException("no such report");
        }
    }

    /** Returns the index in the trail of the fact that removed a value. */
    public int factOf(int variable, int value)
            throws IndexOutOfBoundsException, IllegalArgumentException, NoSuchElementException {
        if (!isVariable(variable)) {
            throw new IndexOutOfBoundsException("no such variable");
        }
        if (!isValue(value)) {
            throw new IllegalArgumentException("no such value");
        }
        long pair = Pairs.pair(variable, value);
        for (int i = 0; i < trail.size; i++) {
            if (trail.pairAt(i) == pair) {
                return i;
            }
        }
        throw new NoSuchElementException("the value has not been removed");
    }

    /** Returns the number of facts of the explanation of a fact. */
    public int explanationSize(int index) throws IndexOutOfBoundsException {
        Fact it = trail.factAt(index);
        if (it == null) {
            throw new IndexOutOfBoundsException("no such fact");
        }
        return Long.bitCount(explanationOf(it, index));
    }

    /** Returns the index in the trail of the k-th fact of the explanation of a fact. */
    public int explained(int index, int k) throws IndexOutOfBoundsException {
        Fact it = trail.factAt(index);
        if (it == null) {
            throw new IndexOutOfBoundsException("no such fact");
        }
        long explanation = explanationOf(it, index);
        int at = 0;
        for (int i = 0; i < index; i++) {
            if ((trail.pairAt(i) & explanation) != 0) {
                if (at == k) {
                    return i;
                }
                at++;
            }
        }
        throw new IndexOutOfBoundsException("the explanation has not so many facts");
    }

    /** Returns the depth of a fact. */
    public int depth(int index) throws IndexOutOfBoundsException {
        Fact asked = trail.factAt(index);
        if (asked == null) {
            throw new IndexOutOfBoundsException("no such fact");
        }
        for (int i = 0; i <= index; i++) {
            Fact it = trail.factAt(i);
            if (it != null) {
                it.depth = depthAbove(explanationOf(it, i), i);
            }
        }
        return asked.depth;
    }

    /** The depth that an explanation gives, when the depths of the facts before the given index are known. */
    private int depthAbove(long explanation, int index) {
        int depth = 0;
        for (int i = 0; i < index; i++) {
            Fact it = trail.factAt(i);
            if (it != null && (it.pair() & explanation) != 0) {
                depth = Math.max(depth, it.depth + 1);
            }
        }
        return depth;
    }

    /** The explanation as a set of the removed pairs. It is kept with the fact, as what stands before stays. */
    private long explanationOf(Fact it, int index) {
        if (it.explanation == Fact.NOT_YET_EXPLAINED) {
            Constraint source = sourceOf(it);
            it.explanation = source == null ? 0 : leastExplanation(it, index, source);
        }
        return it.explanation;
    }

    private Constraint sourceOf(Fact it) {
        if (it.reason == BY_SET) {
            view.show(it.set);
            return view;
        }
        return problem.constraintAt(it.reason);
    }

    private long leastExplanation(Fact it, int index, Constraint source) {
        long left = 0;
        for (int i = 0; i < index; i++) {
            left |= trail.pairAt(i) & source.scope;
        }
        for (int i = index - 1; i >= 0; i--) {
            long without = left & ~trail.pairAt(i);
            long domains = Pairs.narrowed(problem.initial & ~without, it.variable, it.value);
            if (without != left && Constraint.leastFrom(source, domains, 0) == Constraint.NO_SUPPORT) {
                left = without;
            }
        }
        return left;
    }

    // ---- supports

    /** Tells whether a value has a support in a constraint at present. */
    public boolean isSupported(int constraint, int variable, int value)
            throws IndexOutOfBoundsException, IllegalArgumentException {
        Constraint it = problem.constraintAt(constraint);
        if (it == null || !it.hasVariable(variable)) {
            throw new IndexOutOfBoundsException("no such constraint, or none of its variables");
        }
        if (!isValue(value)) {
            throw new IllegalArgumentException("no such value");
        }
        return presentSupport(it, variable, value) != Constraint.NO_SUPPORT;
    }

    /** Returns the value of the variable other in the least support of a value in a constraint. */
    public int support(int constraint, int variable, int value, int other)
            throws IndexOutOfBoundsException, IllegalArgumentException, NoSuchElementException {
        Constraint it = problem.constraintAt(constraint);
        if (it == null || !it.hasVariable(variable) || !it.hasVariable(other)) {
            throw new IndexOutOfBoundsException("no such constraint, or none of its variables");
        }
        if (!isValue(value)) {
            throw new IllegalArgumentException("no such value");
        }
        long least = presentSupport(it, variable, value);
        if (least == Constraint.NO_SUPPORT) {
            throw new NoSuchElementException("there is no support");
        }
        return Pairs.leastValueOf(least, other);
    }

    private long presentSupport(Constraint it, int variable, int value) {
        return Constraint.leastFrom(it, Pairs.narrowed(trail.domains, variable, value), 0);
    }

    /** Returns how many least supports would be lost if a value were removed. */
    public int watchers(int variable, int value) throws IndexOutOfBoundsException, IllegalArgumentException {
        if (!isVariable(variable)) {
            throw new IndexOutOfBoundsException("no such variable");
        }
        if (!isValue(value)) {
            throw new IllegalArgumentException("no such value");
        }
        int watchers = 0;
        for (int i = 0; i < problem.constraints; i++) {
            Constraint it = problem.constraintAt(i);
            if (it != null && it.hasVariable(variable)) {
                watchers += watchersIn(it, variable, value);
            }
        }
        return watchers;
    }

    private int watchersIn(Constraint it, int variable, int value) {
        int watchers = 0;
        for (int position = 0; position < it.size; position++) {
            int other = it.variableAt(position);
            for (int own = 0; own < VALUES && other != variable; own++) {
                if (Pairs.has(presentSupport(it, other, own), variable, value)) {
                    watchers++;
                }
            }
        }
        return watchers;
    }

    /** Returns the number of assignments of values in the domains that fulfil a constraint. */
    public int tuples(int constraint) throws IndexOutOfBoundsException {
        Constraint it = problem.constraintAt(constraint);
        if (it == null) {
            throw new IndexOutOfBoundsException("no such constraint");
        }
        return Constraint.countFrom(it, trail.domains, 0);
    }

    /** Returns the share of the assignments of values in the domains that do not fulfil a constraint. */
    public double tightness(int constraint) throws IndexOutOfBoundsException, IllegalStateException {
        Constraint it = problem.constraintAt(constraint);
        if (it == null) {
            throw new IndexOutOfBoundsException("no such constraint");
        }
        int all = Pairs.assignments(trail.domains, it.scope);
        if (all == 0) {
            throw new IllegalStateException("a domain is empty");
        }
        int fulfilling = Constraint.countFrom(it, trail.domains, 0);
        return (double) (all - fulfilling) / (double) all;
    }

    // ---- solutions

    /** Returns the number of solutions. */
    public int solutions() {
        found.find(problem, trail.domains);
        return found.count;
    }

    /** Returns the value of a variable in the lexicographically first solution. */
    public int first(int variable) throws IndexOutOfBoundsException, NoSuchElementException {
        if (!isVariable(variable)) {
            throw new IndexOutOfBoundsException("no such variable");
        }
        found.find(problem, trail.domains);
        if (found.count == 0) {
            throw new NoSuchElementException("there is no solution");
        }
        return Pairs.leastValueOf(found.least, variable);
    }

    /** Returns the values that a variable has in solutions, as a bit set. */
    public int possible(int variable) throws IndexOutOfBoundsException {
        if (!isVariable(variable)) {
            throw new IndexOutOfBoundsException("no such variable");
        }
        found.find(problem, trail.domains);
        return Pairs.valuesOf(found.united, variable);
    }

    /** Returns the number of values in all domains that no solution has. */
    public int overlooked() {
        found.find(problem, trail.domains);
        return Long.bitCount(trail.domains & ~found.united);
    }

    // ---- decisions

    /** Removes a value, propagates, and returns the number of facts that came. */
    public int forbid(int variable, int value)
            throws IndexOutOfBoundsException, IllegalArgumentException, IllegalStateException {
        if (!isVariable(variable)) {
            throw new IndexOutOfBoundsException("no such variable");
        }
        if (!Pairs.has(trail.domains, variable, value)) {
            throw new IllegalArgumentException("the value is not in the domain");
        }
        if (trail.level > 0 || trail.hasFailed()) {
            throw new IllegalStateException("there are decisions, or the solver has failed");
        }
        int before = trail.size;
        trail.remove(variable, value, BY_FORBID, 0);
        propagate(trail);
        return trail.size - before;
    }

    /** Makes a decision, propagates, and returns the number of facts that came. */
    public int decide(int variable, int value)
            throws IndexOutOfBoundsException, IllegalArgumentException, IllegalStateException {
        if (!isVariable(variable)) {
            throw new IndexOutOfBoundsException("no such variable");
        }
        if (!Pairs.has(trail.domains, variable, value)) {
            throw new IllegalArgumentException("the value is not in the domain");
        }
        if (isFixed(variable) || trail.hasFailed()) {
            throw new IllegalStateException("the variable is fixed, or the solver has failed");
        }
        int before = trail.size;
        makeDecision(variable, value);
        return trail.size - before;
    }

    private void makeDecision(int variable, int value) {
        decisionsMade++;
        trail.assume(variable, value);
        propagate(trail);
    }

    /** Takes back the latest decision and returns the number of facts that went. */
    public int back() throws IllegalStateException {
        if (trail.level == 0) {
            throw new IllegalStateException("there is no decision");
        }
        return trail.takeBack();
    }

    /** Returns a present decision as 10 * variable + value. */
    public int decision(int index) throws IndexOutOfBoundsException {
        if (index < 0 || index >= trail.level) {
            throw new IndexOutOfBoundsException("no such decision");
        }
        return Pairs.toldPair(trail.decisionAt(index), 0);
    }

    /** Returns the number of facts that decide() would return, or NONE if the solver would fail. */
    public int probe(int variable, int value)
            throws IndexOutOfBoundsException, IllegalArgumentException, IllegalStateException {
        if (!isVariable(variable)) {
            throw new IndexOutOfBoundsException("no such variable");
        }
        if (!Pairs.has(trail.domains, variable, value)) {
            throw new IllegalArgumentException("the value is not in the domain");
        }
        if (isFixed(variable) || trail.hasFailed()) {
            throw new IllegalStateException("the variable is fixed, or the solver has failed");
        }
        scratch.begin(problem.variables, trail.domains);
        scratch.assume(variable, value);
        propagate(scratch);
        return scratch.hasFailed() ? NONE : scratch.size;
    }

    /** Removes each value without a support, until all values have one or a domain is empty. */
    private void propagate(Trail on) {
        // Each round but the last one removes a value, so there are never more rounds than this.
        for (int round = 0; round <= MAX_FACTS; round++) {
            int before = on.size;
            for (int i = 0; i < problem.constraints; i++) {
                Constraint it = problem.constraintAt(i);
                if (it != null) {
                    sweep(on, it, i, 0);
                }
            }
            for (int i = 0; i < setCount; i++) {
                long set = setAt(i);
                view.show(set);
                sweep(on, view, BY_SET, set);
            }
            if (on.size == before) {
                return;
            }
        }
    }

    /** Removes the values that have no support in one constraint, and stops at the first empty domain. */
    private static void sweep(Trail on, Constraint it, int reason, long set) {
        for (int position = 0; position < it.size; position++) {
            int variable = it.variableAt(position);
            for (int value = 0; value < VALUES; value++) {
                if (on.hasFailed()) {
                    return;
                }
                if (Pairs.has(on.domains, variable, value)) {
                    long domains = Pairs.narrowed(on.domains, variable, value);
                    if (Constraint.leastFrom(it, domains, 0) == Constraint.NO_SUPPORT) {
                        on.remove(variable, value, reason, set);
                    }
                }
            }
        }
    }

    // ---- learning and searching

    /** Learns a set from the present decisions, takes back the latest one, propagates, and returns the set's size. */
    public int learn() throws IllegalStateException {
        if (!trail.hasFailed() || trail.level == 0) {
            throw new IllegalStateException("the solver has not failed, or there are no decisions");
        }
        return learnFromFailure();
    }

    private int learnFromFailure() {
        long set = 0;
        for (int i = 0; i < trail.level; i++) {
            set |= trail.decisionAt(i);
        }
        long ground = trail.groundDomains(problem.initial);
        for (int i = 0; i < trail.level; i++) {
            long others = set & ~trail.decisionAt(i);
            scratch.begin(problem.variables, Pairs.assigned(ground, others));
            propagate(scratch);
            if (scratch.hasFailed()) {
                set = others;
            }
        }
        keepSet(set);
        trail.takeBack();
        propagate(trail);
        return Long.bitCount(set);
    }

    private void keepSet(long set) {
        if (setCount >= MAX_SETS) {
            System.arraycopy(sets, 1, sets, 0, MAX_SETS - 1);
            setCount = MAX_SETS - 1;
        }
        if (setCount >= 0 && setCount < sets.length) {
            sets[setCount] = set;
            setCount++;
        }
    }

    private long setAt(int index) {
        return index >= 0 && index < setCount && index < sets.length ? sets[index] : 0;
    }

    /** Tells an assignment of a learnt set as 10 * variable + value. */
    public int learnt(int set, int index) throws IndexOutOfBoundsException {
        if (set < 0 || set >= setCount || index < 0 || index >= Long.bitCount(setAt(set))) {
            throw new IndexOutOfBoundsException("no such set or assignment");
        }
        return Pairs.toldPair(setAt(set), index);
    }

    /** Searches for a solution: 1 if there is one, 0 if the decisions were not enough, NONE if there is none. */
    public int search(int decisions) throws IllegalArgumentException {
        if (decisions < 1 || decisions > MAX_SEARCH_DECISIONS) {
            throw new IllegalArgumentException("no such number of decisions");
        }
        int made = 0;
        for (int step = 0; step < MAX_SEARCH_STEPS; step++) {
            if (trail.hasFailed()) {
                if (trail.level == 0) {
                    return NONE;
                }
                learnFromFailure();
                continue;
            }
            int variable = variableToDecide();
            if (variable == NONE) {
                return 1;
            }
            if (made == decisions) {
                return 0;
            }
            made++;
            makeDecision(variable, Pairs.leastValueOf(trail.domains, variable));
        }
        return 0;
    }

    /** The variable with the fewest values, but more than one, or NONE if all are fixed. */
    private int variableToDecide() {
        int chosen = NONE;
        int fewest = VALUES + 1;
        for (int variable = 0; variable < problem.variables; variable++) {
            int values = Integer.bitCount(Pairs.valuesOf(trail.domains, variable));
            if (values > 1 && values < fewest) {
                chosen = variable;
                fewest = values;
            }
        }
        return chosen;
    }

    /** Takes back all decisions, forgets all learnt sets, and returns the number of decisions that there were. */
    public int restart() {
        int decisions = trail.level;
        for (int i = 0; i < decisions; i++) {
            trail.takeBack();
        }
        setCount = 0;
        return decisions;
    }

    /**
     * Sets of pairs of a variable and a value, each packed into a long: bit 5 * variable + value. Domains,
     * assignments, learnt sets and explanations are all such sets.
     */
    private static final class Pairs {
        /** The pairs with the value 0, one for each variable. */
        static final long ZEROS = 0x42108421L;
        static final int ALL_VALUES = 31;

        private Pairs() {
        }

        static long pair(int variable, int value) {
            return 1L << (VALUES * variable + value);
        }

        static long allOf(int variable) {
            return (long) ALL_VALUES << VALUES * variable;
        }

        static int valuesOf(long pairs, int variable) {
            return (int) (pairs >>> VALUES * variable) & ALL_VALUES;
        }

        static boolean has(long pairs, int variable, int value) {
            return isValue(value) && (pairs & pair(variable, value)) != 0;
        }

        /** The domains without the other values of a variable. */
        static long narrowed(long domains, int variable, int value) {
            return domains & (~allOf(variable) | pair(variable, value));
        }

        /** The domains without the other values of all variables of the assignments. */
        static long assigned(long domains, long assignments) {
            return domains & (~(marks(assignments) * ALL_VALUES) | assignments);
        }

        /** The pair with the value 0 for each variable that has a pair in the set. */
        static long marks(long pairs) {
            return (pairs | pairs >>> 1 | pairs >>> 2 | pairs >>> 3 | pairs >>> 4) & ZEROS;
        }

        static int variablesIn(long pairs) {
            return Long.bitCount(marks(pairs));
        }

        /** The least value of a variable in the set, or NONE. */
        static int leastValueOf(long pairs, int variable) {
            for (int value = 0; value < VALUES; value++) {
                if (has(pairs, variable, value)) {
                    return value;
                }
            }
            return NONE;
        }

        /** The set with the least value alone of each variable. */
        static long leastOfEach(long pairs) {
            long least = 0;
            for (int variable = 0; variable < MAX_VARIABLES; variable++) {
                long own = pairs & allOf(variable);
                least |= own & -own;
            }
            return least;
        }

        /** The number of assignments of values in the domains to the variables of the scope. */
        static int assignments(long domains, long scope) {
            int product = 1;
            for (int variable = 0; variable < MAX_VARIABLES; variable++) {
                if ((scope & allOf(variable)) != 0) {
                    product *= Integer.bitCount(valuesOf(domains, variable));
                }
            }
            return product;
        }

        /** The pair with so many pairs before it, as 10 * variable + value, or NONE. */
        static int toldPair(long pairs, int index) {
            int before = 0;
            for (int bit = 0; bit < MAX_FACTS; bit++) {
                if ((pairs >>> bit & 1) != 0) {
                    if (before == index) {
                        return 10 * (bit / VALUES) + bit % VALUES;
                    }
                    before++;
                }
            }
            return NONE;
        }
    }

    /** A constraint on up to 7 variables. Domains stand for all assignments of their values. */
    private abstract static class Constraint {
        static final int COUNTS = 0;
        static final int WINDOW = 1;
        static final int LESS = 2;
        static final int DIFFER = 3;
        static final int LEARNT = 4;
        static final long NO_SUPPORT = 0;
        final int kind;
        int size = 0;
        /** All pairs of the variables. */
        long scope = 0;
        /** The variables in their order, each in 3 bits. */
        private int order = 0;

        Constraint(int kind) {
            this.kind = kind;
        }

        /** Whether never, for some or always an assignment fulfils this; each domain has a value. */
        abstract int verdict(long domains);

        /** The values that this does not tell from the given one, as a bit set. */
        abstract int alike(int value);

        final void addVariable(int variable) {
            if (size < MAX_VARIABLES) {
                order |= variable << 3 * size;
                scope |= Pairs.allOf(variable);
                size++;
            }
        }

        final void clearVariables() {
            order = 0;
            scope = 0;
            size = 0;
        }

        final int variableAt(int position) {
            return order >>> 3 * position & 7;
        }

        final boolean hasVariable(int variable) {
            return variable >= 0 && variable < MAX_VARIABLES && (scope & Pairs.allOf(variable)) != 0;
        }

        /** The verdict on a number that lies between two others and must lie between two bounds. */
        static int verdictOn(int fewest, int most, int least, int greatest) {
            if (most < least || fewest > greatest) {
                return NEVER;
            }
            return fewest >= least && most <= greatest ? ALWAYS : OPEN;
        }

        /** The lexicographically first assignment that fulfils it, the variables before the position being fixed. */
        private static long leastFrom(Constraint it, long domains, int position) {
            int verdict = it.verdict(domains);
            if (verdict == NEVER) {
                return NO_SUPPORT;
            }
            if (verdict == ALWAYS || position >= it.size) {
                long least = Pairs.leastOfEach(domains & it.scope);
                return Long.bitCount(least) == it.size ? least : NO_SUPPORT;
            }
            int variable = it.variableAt(position);
            int left = Pairs.valuesOf(domains, variable);
            for (int value = 0; value < VALUES; value++) {
                if ((left >>> value & 1) != 0) {
                    long least = leastFrom(it, Pairs.narrowed(domains, variable, value), position + 1);
                    if (least != NO_SUPPORT) {
                        return least;
                    }
                    left &= ~it.alike(value);
                }
            }
            return NO_SUPPORT;
        }

        /** The number of assignments that fulfil it, the variables before the position being fixed. */
        private static int countFrom(Constraint it, long domains, int position) {
            int verdict = it.verdict(domains);
            if (verdict == NEVER) {
                return 0;
            }
            if (verdict == ALWAYS || position >= it.size) {
                return Pairs.assignments(domains, it.scope);
            }
            int variable = it.variableAt(position);
            int left = Pairs.valuesOf(domains, variable);
            int count = 0;
            for (int value = 0; value < VALUES; value++) {
                if ((left >>> value & 1) != 0) {
                    int alike = left & it.alike(value);
                    long narrowed = Pairs.narrowed(domains, variable, value);
                    count += Integer.bitCount(alike) * countFrom(it, narrowed, position + 1);
                    left &= ~alike;
                }
            }
            return count;
        }
    }

    /** How many variables have each value. */
    private static final class Counts extends Constraint {
        /** The bounds of each value, each in 3 bits; a value that is not counted has the widest ones. */
        private int least = 0;
        private int greatest = 0x7fff;
        private int counted = 0;

        Counts() {
            super(COUNTS);
        }

        boolean hasCount(int value) {
            return isValue(value) && (counted >>> value & 1) != 0;
        }

        void addCount(int value, int from, int to) {
            counted |= 1 << value;
            least |= from << 3 * value;
            greatest &= ~(7 << 3 * value) | to << 3 * value;
        }

        @Override
        int verdict(long domains) {
            int verdict = ALWAYS;
            int needed = 0;
            int room = 0;
            for (int value = 0; value < VALUES && verdict != NEVER; value++) {
                long having = Pairs.ZEROS << value & scope;
                int most = Long.bitCount(domains & having);
                int fewest = size - Pairs.variablesIn(domains & scope & ~having);
                int from = least >>> 3 * value & 7;
                int to = greatest >>> 3 * value & 7;
                verdict = Math.min(verdict, verdictOn(fewest, most, from, to));
                needed += Math.max(fewest, from);
                room += Math.min(most, to);
            }
            // Each variable has one value: without this, searches would go on long where too many are needed.
            return needed > size || room < size ? NEVER : verdict;
        }

        @Override
        int alike(int value) {
            return hasCount(value) ? 1 << value : Pairs.ALL_VALUES & ~counted;
        }
    }

    /** How many of some successive variables have a value of a set. */
    private static final class Window extends Constraint {
        private final int width;
        private final int set;
        private final int least;
        private final int greatest;

        Window(int width, int set, int least, int greatest) {
            super(WINDOW);
            this.width = width;
            this.set = set;
            this.least = least;
            this.greatest = greatest;
        }

        @Override
        int verdict(long domains) {
            int verdict = ALWAYS;
            for (int start = 0; start + width <= size && verdict != NEVER; start++) {
                long group = 0;
                for (int position = start; position < start + width; position++) {
                    group |= Pairs.allOf(variableAt(position));
                }
                long inside = Pairs.ZEROS * set & group;
                int most = Pairs.variablesIn(domains & inside);
                int fewest = width - Pairs.variablesIn(domains & group & ~inside);
                verdict = Math.min(verdict, verdictOn(fewest, most, least, greatest));
            }
            return verdict;
        }

        @Override
        int alike(int value) {
            return (set >>> value & 1) != 0 ? set : Pairs.ALL_VALUES & ~set;
        }
    }

    /** The first value is less than the second one, or the two are different. */
    private static final class Comparison extends Constraint {
        Comparison(boolean isLess) {
            super(isLess ? LESS : DIFFER);
        }

        @Override
        int verdict(long domains) {
            int left = Pairs.valuesOf(domains, variableAt(0));
            int right = Pairs.valuesOf(domains, variableAt(1));
            if (kind == LESS) {
                return verdictOnLess(left, right);
            }
            if ((left & right) == 0) {
                return ALWAYS;
            }
            return left == right && Integer.bitCount(left) == 1 ? NEVER : OPEN;
        }

        @Override
        int alike(int value) {
            return 1 << value;
        }

        private static int verdictOnLess(int left, int right) {
            int leastOfLeft = left & -left;
            int leastOfRight = right & -right;
            if (right < 2 * leastOfLeft) {
                return NEVER;
            }
            return left < leastOfRight ? ALWAYS : OPEN;
        }
    }

    /** Not all assignments of a set hold. One object shows one set after another. */
    private static final class LearntSet extends Constraint {
        private long set = 0;

        LearntSet() {
            super(LEARNT);
        }

        void show(long shown) {
            set = shown;
            clearVariables();
            for (int variable = 0; variable < MAX_VARIABLES; variable++) {
                if (Pairs.valuesOf(shown, variable) != 0) {
                    addVariable(variable);
                }
            }
        }

        @Override
        int verdict(long domains) {
            if ((domains & set) != set) {
                return ALWAYS;
            }
            return (domains & scope) == set ? NEVER : OPEN;
        }

        @Override
        int alike(int value) {
            return 1 << value;
        }
    }

    /** The variables with their initial domains, and the constraints. */
    private static final class Problem {
        /** The answer of openScope() if the constraints are never all fulfilled. */
        static final long NO_WAY = -1;

        private final Constraint[] rows = new Constraint[MAX_CONSTRAINTS];
        int variables = 0;
        int constraints = 0;
        long initial = 0;

        void addVariable(int from, int to) {
            for (int value = from; value <= to && value < VALUES; value++) {
                initial |= Pairs.pair(variables, value);
            }
            variables++;
        }

        void addConstraint(Constraint it) {
            if (constraints >= 0 && constraints < rows.length) {
                rows[constraints] = it;
                constraints++;
            }
        }

        /** The constraint, or null if there is none with this number. */
        Constraint constraintAt(int number) {
            return number >= 0 && number < constraints && number < rows.length ? rows[number] : null;
        }

        /** All pairs of the variables on which it depends whether all constraints are fulfilled, or NO_WAY. */
        long openScope(long domains) {
            long open = 0;
            for (int i = 0; i < constraints && open != NO_WAY; i++) {
                Constraint it = constraintAt(i);
                int verdict = it == null ? ALWAYS : it.verdict(domains);
                if (verdict == NEVER) {
                    open = NO_WAY;
                } else if (verdict == OPEN && it != null) {
                    open |= it.scope;
                }
            }
            return open;
        }
    }

    /** What is to be told of all solutions, kept as long as the domains stay. */
    private static final class Solutions {
        boolean isKnown = false;
        int count = 0;
        /** The first solution. */
        long least = 0;
        /** All pairs of all solutions. */
        long united = 0;
        private long domains = 0;

        void find(Problem problem, long present) {
            if (isKnown && domains == present) {
                return;
            }
            isKnown = true;
            domains = present;
            count = 0;
            least = 0;
            united = 0;
            addFrom(this, problem, present, 0);
        }

        /** Adds the solutions with values of the domains; nothing depends on the variables before the given one. */
        private static void addFrom(Solutions found, Problem problem, long domains, int variable) {
            long open = problem.openScope(domains);
            if (open == Problem.NO_WAY) {
                return;
            }
            int next = variable;
            while (next < problem.variables && (open & Pairs.allOf(next)) == 0) {
                next++;
            }
            if (next >= problem.variables) {
                found.addAll(domains, Pairs.assignments(domains, problem.initial));
                return;
            }
            for (int value = 0; value < VALUES; value++) {
                if (Pairs.has(domains, next, value)) {
                    addFrom(found, problem, Pairs.narrowed(domains, next, value), next + 1);
                }
            }
        }

        private void addAll(long block, int number) {
            if (number > 0) {
                least = count == 0 ? Pairs.leastOfEach(block) : least;
                united |= block;
                count += number;
            }
        }
    }

    /** The removal of a value. */
    private static final class Fact {
        static final long NOT_YET_EXPLAINED = -1;
        int variable = 0;
        int value = 0;
        int reason = 0;
        int level = 0;
        /** The learnt set that is the reason, or 0: it may be no longer kept. */
        long set = 0;
        long explanation = NOT_YET_EXPLAINED;
        /** Told anew by each call of depth(). */
        int depth = 0;

        long pair() {
            return Pairs.pair(variable, value);
        }
    }

    /** The domains, the facts that led to them, and the decisions. */
    private static final class Trail {
        private final Fact[] facts = new Fact[MAX_FACTS];
        private final long[] decisions = new long[MAX_VARIABLES];
        private int variables = 0;
        int size = 0;
        int level = 0;
        long domains = 0;

        Trail() {
            for (int i = 0; i < facts.length; i++) {
                facts[i] = new Fact();
            }
        }

        void begin(int numberOfVariables, long initial) {
            variables = numberOfVariables;
            size = 0;
            level = 0;
            domains = initial;
        }

        /** A domain is empty. */
        boolean hasFailed() {
            return Pairs.variablesIn(domains) < variables;
        }

        /** The fact, or null if there is none with this index. */
        Fact factAt(int index) {
            return index >= 0 && index < size && index < facts.length ? facts[index] : null;
        }

        /** The pair that a fact removed. */
        long pairAt(int index) {
            Fact it = factAt(index);
            return it == null ? 0 : it.pair();
        }

        /** The pair of a decision. */
        long decisionAt(int index) {
            return index >= 0 && index < level && index < decisions.length ? decisions[index] : 0;
        }

        void remove(int variable, int value, int reason, long set) {
            size++;
            Fact it = factAt(size - 1);
            if (it == null) {
                size--;
                return;
            }
            it.variable = variable;
            it.value = value;
            it.reason = reason;
            it.level = level;
            it.set = set;
            it.explanation = Fact.NOT_YET_EXPLAINED;
            domains &= ~it.pair();
        }

        /** Makes a decision, without propagation. */
        void assume(int variable, int value) {
            if (level < 0 || level >= decisions.length) {
                return;
            }
            decisions[level] = Pairs.pair(variable, value);
            level++;
            for (int other = 0; other < VALUES; other++) {
                if (other != value && Pairs.has(domains, variable, other)) {
                    remove(variable, other, BY_DECISION, 0);
                }
            }
        }

        /** Takes back the latest decision with all facts of its level, and returns their number. */
        int takeBack() {
            int before = size;
            for (int i = before - 1; i >= 0; i--) {
                Fact it = factAt(i);
                if (it == null || it.level < level) {
                    break;
                }
                domains |= it.pair();
                size--;
            }
            level--;
            return before - size;
        }

        /** The domains that follow from the facts of level 0. */
        long groundDomains(long initial) {
            long ground = initial;
            for (int i = 0; i < size; i++) {
                Fact it = factAt(i);
                if (it != null && it.level == 0) {
                    ground &= ~it.pair();
                }
            }
            return ground;
        }
    }

    /** The text buffer, and the reading of its text. */
    private static final class TextReader {
        static final int MAX_LENGTH = 600;

        private static final int END = 0;
        private static final int WORD = 1;
        private static final int NUMBER = 2;
        private static final int SEMICOLON = 3;
        private static final int NO_TOKEN = 4;

        private static final int WRONG_TOKEN = 1;
        private static final int OUT_OF_RANGE = 2;
        private static final int WRONG_NAME = 3;
        private static final int TOO_MANY = 4;

        private static final int MAX_LETTERS = 6;
        private static final int MAX_DIGITS = 2;
        private static final int LONG_WORD = -1;

        private final byte[] bytes = new byte[MAX_LENGTH];
        private final int[] names = new int[MAX_VARIABLES];
        int length = 0;
        int errorCode = 0;
        int errorPosition = NONE;
        Problem problem = new Problem();
        private int kind = END;
        private int start = 0;
        private int end = 0;
        /** The number of a NUMBER; the code of a WORD. */
        private int content = 0;

        void addFour(int word) {
            for (int shift = 24; shift >= 0; shift -= 8) {
                if (length >= 0 && length < bytes.length) {
                    bytes[length] = (byte) (word >>> shift);
                    length++;
                }
            }
        }

        /** Goes to the first token; what is read then makes a new problem. */
        void begin() {
            problem = new Problem();
            errorCode = 0;
            errorPosition = NONE;
            end = 0;
            nextToken();
        }

        private boolean fail(int code) {
            errorCode = code;
            errorPosition = start;
            return false;
        }

        /** Reads all variables; false if there is an error. */
        boolean readVariables() {
            for (int i = 0; i <= MAX_VARIABLES && isWord("var"); i++) {
                if (i == MAX_VARIABLES) {
                    return fail(TOO_MANY);
                }
                if (!readVariable()) {
                    return false;
                }
            }
            return true;
        }

        private boolean readVariable() {
            nextToken();
            if (!isName()) {
                return fail(WRONG_TOKEN);
            }
            int name = content;
            if (variableOf(name) != NONE) {
                return fail(WRONG_NAME);
            }
            nextToken();
            int from = readNumber(0, VALUES - 1);
            int to = from == NONE ? NONE : readNumber(from, VALUES - 1);
            if (to == NONE || !readSemicolon()) {
                return false;
            }
            int variable = problem.variables;
            if (variable >= 0 && variable < names.length) {
                names[variable] = name;
                problem.addVariable(from, to);
            }
            return true;
        }

        /** Reads all constraints, up to the end of the text; false if there is an error. */
        boolean readConstraints() {
            for (int i = 0; i <= MAX_CONSTRAINTS && kind != END; i++) {
                boolean isCounts = isWord("counts");
                boolean isWindow = isWord("window");
                boolean isLess = isWord("less");
                if (!isCounts && !isWindow && !isLess && !isWord("differ")) {
                    return fail(WRONG_TOKEN);
                }
                if (i == MAX_CONSTRAINTS) {
                    return fail(TOO_MANY);
                }
                nextToken();
                Constraint it = isCounts ? readCounts() : isWindow ? readWindow() : readComparison(isLess);
                if (it == null || !readSemicolon()) {
                    return false;
                }
                problem.addConstraint(it);
            }
            return true;
        }

        private Constraint readComparison(boolean isLess) {
            Comparison it = new Comparison(isLess);
            return readMember(it) && readMember(it) ? it : null;
        }

        /** Reads the members and counts behind the first word; null if there is an error. */
        private Constraint readCounts() {
            Counts it = new Counts();
            // A name can stand once, so the 8th one is an error.
            for (int i = 0; i <= MAX_VARIABLES && (i == 0 || !isWord("value")); i++) {
                if (!readMember(it)) {
                    return null;
                }
            }
            // A value can stand once, so the 6th count is an error.
            for (int i = 0; i <= VALUES && isWord("value"); i++) {
                nextToken();
                if (!readCount(it)) {
                    return null;
                }
            }
            return it;
        }

        private boolean readCount(Counts it) {
            if (kind == NUMBER && it.hasCount(content)) {
                return fail(WRONG_NAME);
            }
            int value = readNumber(0, VALUES - 1);
            int from = value == NONE ? NONE : readNumber(0, MAX_VARIABLES);
            int to = from == NONE ? NONE : readNumber(from, MAX_VARIABLES);
            if (to == NONE) {
                return false;
            }
            it.addCount(value, from, to);
            return true;
        }

        private Constraint readWindow() {
            int width = readNumber(1, 4);
            int set = width == NONE ? NONE : readNumber(1, Pairs.ALL_VALUES);
            int from = set == NONE ? NONE : readNumber(0, width);
            int to = from == NONE ? NONE : readNumber(from, width);
            if (to == NONE) {
                return null;
            }
            Window it = new Window(width, set, from, to);
            for (int i = 0; i <= MAX_VARIABLES && (i == 0 || kind != SEMICOLON); i++) {
                if (!readMember(it)) {
                    return null;
                }
            }
            return it;
        }

        /** Reads the name of a variable that a constraint does not have yet. */
        private boolean readMember(Constraint it) {
            if (!isName()) {
                return fail(WRONG_TOKEN);
            }
            int variable = variableOf(content);
            if (variable == NONE || it.hasVariable(variable)) {
                return fail(WRONG_NAME);
            }
            it.addVariable(variable);
            nextToken();
            return true;
        }

        /** Reads a number in a range; NONE if there is an error. */
        private int readNumber(int least, int greatest) {
            if (kind != NUMBER) {
                fail(WRONG_TOKEN);
                return NONE;
            }
            if (content < least || content > greatest) {
                fail(OUT_OF_RANGE);
                return NONE;
            }
            int number = content;
            nextToken();
            return number;
        }

        private boolean readSemicolon() {
            if (kind != SEMICOLON) {
                return fail(WRONG_TOKEN);
            }
            nextToken();
            return true;
        }

        private boolean isName() {
            return kind == WORD && content != LONG_WORD && !isWord("value");
        }

        private boolean isWord(String word) {
            if (kind != WORD || end - start != word.length()) {
                return false;
            }
            for (int i = 0; i < word.length(); i++) {
                if (byteAt(start + i) != word.charAt(i)) {
                    return false;
                }
            }
            return true;
        }

        /** The variable with this name, or NONE. */
        private int variableOf(int name) {
            for (int i = 0; i < problem.variables && i < names.length; i++) {
                if (names[i] == name) {
                    return i;
                }
            }
            return NONE;
        }

        private int byteAt(int index) {
            return index >= 0 && index < length && index < bytes.length ? bytes[index] & 255 : NONE;
        }

        private static boolean isLetter(int character) {
            return character >= 'a' && character <= 'z';
        }

        private static boolean isDigit(int character) {
            return character >= '0' && character <= '9';
        }

        /** Goes on to the next token; the end of the text is one, too. */
        private void nextToken() {
            start = end;
            while (start < length && (byteAt(start) == ' ' || byteAt(start) == '\n')) {
                start++;
            }
            end = start;
            int character = byteAt(start);
            if (isLetter(character)) {
                takeWord();
            } else if (isDigit(character)) {
                takeNumber();
            } else if (start >= length) {
                kind = END;
            } else {
                kind = character == ';' ? SEMICOLON : NO_TOKEN;
                end = start + 1;
            }
        }

        /** Takes a word; its letters are told by a code of 5 bits each if it can be a name. */
        private void takeWord() {
            int code = 0;
            while (end < length && isLetter(byteAt(end))) {
                code = code << 5 | byteAt(end) - 'a' + 1;
                end++;
            }
            kind = WORD;
            content = end - start > MAX_LETTERS ? LONG_WORD : code;
        }

        private void takeNumber() {
            int number = 0;
            while (end < length && isDigit(byteAt(end))) {
                number = 10 * number + byteAt(end) - '0';
                end++;
            }
            kind = end - start > MAX_DIGITS ? NO_TOKEN : NUMBER;
            content = number;
        }
    }
}
