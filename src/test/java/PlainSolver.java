import java.util.ArrayList;
import java.util.List;
import java.util.NoSuchElementException;
import java.util.TreeSet;
import java.util.regex.Matcher;
import java.util.regex.Pattern;

/**
 * The document once more, as plainly as can be: each question is answered by going through all assignments. Random
 * runs compare SupportSolver with it.
 */
final class PlainSolver {
    private static final class TextError extends Exception {
        private static final long serialVersionUID = 1;
        final int code;
        final int position;

        TextError(int code, int position) {
            this.code = code;
            this.position = position;
        }
    }

    private record Token(String text, int position) {
        boolean isName() {
            return text.matches("[a-z]{1,6}") && !text.equals("value");
        }
    }

    private record Fact(int variable, int value, int reason, int level, Rule source) {
    }

    private record Choice(int variable, int value) {
    }

    /** A constraint or a learnt set. */
    private static final class Rule {
        String kind;
        final List<Integer> variables = new ArrayList<>();
        final List<int[]> counts = new ArrayList<>();
        int[] window;
        final List<Choice> set = new ArrayList<>();

        boolean holds(int[] values) {
            switch (kind) {
                case "counts":
                    for (int[] count : counts) {
                        int number = 0;
                        for (int value : values) {
                            number += value == count[0] ? 1 : 0;
                        }
                        if (number < count[1] || number > count[2]) {
                            return false;
                        }
                    }
                    return true;
                case "window":
                    for (int i = 0; i + window[0] <= values.length; i++) {
                        int number = 0;
                        for (int j = i; j < i + window[0]; j++) {
                            number += window[1] >> values[j] & 1;
                        }
                        if (number < window[2] || number > window[3]) {
                            return false;
                        }
                    }
                    return true;
                case "less":
                    return values[0] < values[1];
                case "differ":
                    return values[0] != values[1];
                default:
                    for (int i = 0; i < set.size(); i++) {
                        if (values[i] != set.get(i).value) {
                            return true;
                        }
                    }
                    return false;
            }
        }
    }

    private StringBuilder text = new StringBuilder();
    private int code = 0;
    private int position = -1;
    private List<String> names = new ArrayList<>();
    private List<TreeSet<Integer>> initial = new ArrayList<>();
    private List<Rule> rules = new ArrayList<>();
    private List<TreeSet<Integer>> domains = new ArrayList<>();
    private List<Fact> trail = new ArrayList<>();
    private List<Choice> choices = new ArrayList<>();
    private List<Rule> sets = new ArrayList<>();
    private int made = 0;

    // ---- the text

    int append(int a, int b, int c, int d, int e) {
        if (text.length() + 20 > 600) {
            throw new IllegalStateException();
        }
        for (int word : new int[] {a, b, c, d, e}) {
            for (int shift : new int[] {24, 16, 8, 0}) {
                text.append((char) (word >> shift & 255));
            }
        }
        return text.length();
    }

    int truncate(int length) {
        if (length < 0 || length > text.length()) {
            throw new IndexOutOfBoundsException();
        }
        text.setLength(length);
        return length;
    }

    int load() {
        String whole = text.toString();
        text = new StringBuilder();
        List<String> newNames = new ArrayList<>();
        List<TreeSet<Integer>> newInitial = new ArrayList<>();
        List<Rule> newRules = new ArrayList<>();
        try {
            parse(tokens(whole), newNames, newInitial, newRules);
        } catch (TextError error) {
            code = error.code;
            position = error.position;
            throw new IllegalArgumentException();
        }
        code = 0;
        position = -1;
        names = newNames;
        initial = newInitial;
        rules = newRules;
        domains = copy(initial);
        trail = new ArrayList<>();
        choices = new ArrayList<>();
        sets = new ArrayList<>();
        made = 0;
        propagate();
        return trail.size();
    }

    private static List<Token> tokens(String whole) {
        List<Token> tokens = new ArrayList<>();
        Matcher matcher = Pattern.compile("[a-z]+|[0-9]+|[^ \n]", Pattern.DOTALL).matcher(whole);
        while (matcher.find()) {
            tokens.add(new Token(matcher.group(), matcher.start()));
        }
        tokens.add(new Token("", whole.length()));
        return tokens;
    }

    private static void parse(List<Token> tokens, List<String> names, List<TreeSet<Integer>> domains,
            List<Rule> rules) throws TextError {
        int at = 0;
        while (tokens.get(at).text.equals("var")) {
            demand(names.size() < 7, 4, tokens.get(at));
            Token name = tokens.get(at + 1);
            demand(name.isName(), 1, name);
            demand(!names.contains(name.text), 3, name);
            int from = number(tokens.get(at + 2), 0, 4);
            int to = number(tokens.get(at + 3), from, 4);
            demand(tokens.get(at + 4).text.equals(";"), 1, tokens.get(at + 4));
            names.add(name.text);
            TreeSet<Integer> domain = new TreeSet<>();
            for (int value = from; value <= to; value++) {
                domain.add(value);
            }
            domains.add(domain);
            at += 5;
        }
        while (!tokens.get(at).text.isEmpty()) {
            Token first = tokens.get(at);
            demand(List.of("counts", "window", "less", "differ").contains(first.text), 1, first);
            demand(rules.size() < 8, 4, first);
            at = parseRule(tokens, at, names, rules);
        }
    }

    private static int parseRule(List<Token> tokens, int start, List<String> names, List<Rule> rules)
            throws TextError {
        Rule rule = new Rule();
        rule.kind = tokens.get(start).text;
        int at = start + 1;
        if (rule.kind.equals("window")) {
            int width = number(tokens.get(at), 1, 4);
            int set = number(tokens.get(at + 1), 1, 31);
            int least = number(tokens.get(at + 2), 0, width);
            int greatest = number(tokens.get(at + 3), least, width);
            rule.window = new int[] {width, set, least, greatest};
            at += 4;
        }
        int fewest = rule.kind.equals("less") || rule.kind.equals("differ") ? 2 : 1;
        int most = fewest == 2 ? 2 : 99;
        while (rule.variables.size() < fewest || rule.variables.size() < most && tokens.get(at).isName()) {
            Token name = tokens.get(at);
            demand(name.isName(), 1, name);
            int variable = names.indexOf(name.text);
            demand(variable >= 0 && !rule.variables.contains(variable), 3, name);
            rule.variables.add(variable);
            at++;
        }
        if (rule.kind.equals("counts")) {
            demand(tokens.get(at).text.equals("value"), 1, tokens.get(at));
            while (tokens.get(at).text.equals("value")) {
                int value = number(tokens.get(at + 1), 0, 4);
                for (int[] count : rule.counts) {
                    demand(count[0] != value, 3, tokens.get(at + 1));
                }
                int least = number(tokens.get(at + 2), 0, 7);
                int greatest = number(tokens.get(at + 3), least, 7);
                rule.counts.add(new int[] {value, least, greatest});
                at += 4;
            }
        }
        demand(tokens.get(at).text.equals(";"), 1, tokens.get(at));
        rules.add(rule);
        return at + 1;
    }

    private static int number(Token token, int least, int greatest) throws TextError {
        demand(token.text.matches("[0-9]{1,2}"), 1, token);
        int number = Integer.parseInt(token.text);
        demand(number >= least && number <= greatest, 2, token);
        return number;
    }

    private static void demand(boolean isRight, int code, Token token) throws TextError {
        if (!isRight) {
            throw new TextError(code, token.position);
        }
    }

    int errorCode() {
        return code;
    }

    int errorPosition() {
        return position;
    }

    // ---- reports

    private boolean hasFailed() {
        return domains.stream().anyMatch(TreeSet::isEmpty);
    }

    private boolean isFixed(int variable) {
        return domains.get(variable).size() == 1;
    }

    private static int bits(Iterable<Integer> values) {
        int bits = 0;
        for (int value : values) {
            bits |= 1 << value;
        }
        return bits;
    }

    private void needVariable(int variable) {
        if (variable < 0 || variable >= names.size()) {
            throw new IndexOutOfBoundsException();
        }
    }

    private static void needRange(int number, int greatest) {
        if (number < 0 || number > greatest) {
            throw new IllegalArgumentException();
        }
    }

    private Rule rule(int constraint) {
        if (constraint < 0 || constraint >= rules.size()) {
            throw new IndexOutOfBoundsException();
        }
        return rules.get(constraint);
    }

    private Fact factAt(int index) {
        if (index < 0 || index >= trail.size()) {
            throw new IndexOutOfBoundsException();
        }
        return trail.get(index);
    }

    int report(int what) {
        needRange(what, 7);
        int fixed = (int) domains.stream().filter(domain -> domain.size() == 1).count();
        int[] all = {names.size(), rules.size(), choices.size(), trail.size(), sets.size(), hasFailed() ? 1 : 0, fixed,
            made};
        return all[what];
    }

    int domain(int variable) {
        needVariable(variable);
        return bits(domains.get(variable));
    }

    int constraint(int constraint, int what) {
        Rule rule = rule(constraint);
        needRange(what, 3);
        int facts = (int) trail.stream().filter(fact -> fact.reason == constraint).count();
        int kind = List.of("counts", "window", "less", "differ").indexOf(rule.kind);
        return new int[] {kind, rule.variables.size(), bits(rule.variables), facts}[what];
    }

    int fact(int index, int what) {
        Fact fact = factAt(index);
        needRange(what, 3);
        return new int[] {fact.variable, fact.value, fact.reason, fact.level}[what];
    }

    int factOf(int variable, int value) {
        needVariable(variable);
        needRange(value, 4);
        for (Fact fact : trail) {
            if (fact.variable == variable && fact.value == value) {
                return trail.indexOf(fact);
            }
        }
        throw new NoSuchElementException();
    }

    private List<Integer> explanation(int index) {
        Fact fact = factAt(index);
        List<Integer> left = new ArrayList<>();
        if (fact.source == null) {
            return left;
        }
        for (int i = 0; i < index; i++) {
            if (fact.source.variables.contains(trail.get(i).variable)) {
                left.add(i);
            }
        }
        for (int i = index - 1; i >= 0; i--) {
            List<Integer> others = new ArrayList<>(left);
            if (others.remove((Integer) i)) {
                List<TreeSet<Integer>> without = copy(initial);
                for (int j : others) {
                    without.get(trail.get(j).variable).remove(trail.get(j).value);
                }
                if (leastSupport(fact.source, without, fact.variable, fact.value) == null) {
                    left = others;
                }
            }
        }
        return left;
    }

    int explanationSize(int index) {
        return explanation(index).size();
    }

    int explained(int index, int k) {
        List<Integer> explanation = explanation(index);
        if (k < 0 || k >= explanation.size()) {
            throw new IndexOutOfBoundsException();
        }
        return explanation.get(k);
    }

    int depth(int index) {
        int depth = 0;
        for (int i : explanation(index)) {
            depth = Math.max(depth, 1 + depth(i));
        }
        return depth;
    }

    // ---- supports

    private static List<TreeSet<Integer>> copy(List<TreeSet<Integer>> domains) {
        List<TreeSet<Integer>> copy = new ArrayList<>();
        for (TreeSet<Integer> domain : domains) {
            copy.add(new TreeSet<>(domain));
        }
        return copy;
    }

    /** All assignments to the variables in lexicographic order. */
    private static List<int[]> assignments(List<Integer> variables, List<TreeSet<Integer>> domains) {
        List<int[]> all = new ArrayList<>();
        all.add(new int[0]);
        for (int variable : variables) {
            List<int[]> longer = new ArrayList<>();
            for (int[] assignment : all) {
                for (int value : domains.get(variable)) {
                    int[] next = java.util.Arrays.copyOf(assignment, assignment.length + 1);
                    next[assignment.length] = value;
                    longer.add(next);
                }
            }
            all = longer;
        }
        return all;
    }

    private static int[] leastSupport(Rule rule, List<TreeSet<Integer>> domains, int variable, int value) {
        int at = rule.variables.indexOf(variable);
        for (int[] assignment : assignments(rule.variables, domains)) {
            if (assignment[at] == value && rule.holds(assignment)) {
                return assignment;
            }
        }
        return null;
    }

    private static void needMember(Rule rule, int variable) {
        if (!rule.variables.contains(variable)) {
            throw new IndexOutOfBoundsException();
        }
    }

    boolean isSupported(int constraint, int variable, int value) {
        Rule rule = rule(constraint);
        needMember(rule, variable);
        needRange(value, 4);
        return leastSupport(rule, domains, variable, value) != null;
    }

    int support(int constraint, int variable, int value, int other) {
        Rule rule = rule(constraint);
        needMember(rule, variable);
        needMember(rule, other);
        needRange(value, 4);
        int[] support = leastSupport(rule, domains, variable, value);
        if (support == null) {
            throw new NoSuchElementException();
        }
        return support[rule.variables.indexOf(other)];
    }

    int watchers(int variable, int value) {
        needVariable(variable);
        needRange(value, 4);
        int watchers = 0;
        for (Rule rule : rules) {
            int at = rule.variables.indexOf(variable);
            for (int other : rule.variables) {
                for (int own : domains.get(other)) {
                    int[] support = at < 0 || other == variable ? null : leastSupport(rule, domains, other, own);
                    watchers += support != null && support[at] == value ? 1 : 0;
                }
            }
        }
        return watchers;
    }

    int tuples(int constraint) {
        Rule rule = rule(constraint);
        return (int) assignments(rule.variables, domains).stream().filter(rule::holds).count();
    }

    double tightness(int constraint) {
        Rule rule = rule(constraint);
        int all = assignments(rule.variables, domains).size();
        if (all == 0) {
            throw new IllegalStateException();
        }
        return (double) (all - tuples(constraint)) / all;
    }

    // ---- solutions

    private List<int[]> allSolutions() {
        List<Integer> variables = new ArrayList<>();
        for (int i = 0; i < names.size(); i++) {
            variables.add(i);
        }
        List<int[]> all = assignments(variables, domains);
        for (Rule rule : rules) {
            all.removeIf(solution -> !rule.holds(rule.variables.stream().mapToInt(i -> solution[i]).toArray()));
        }
        return all;
    }

    int solutions() {
        return allSolutions().size();
    }

    int first(int variable) {
        needVariable(variable);
        List<int[]> all = allSolutions();
        if (all.isEmpty()) {
            throw new NoSuchElementException();
        }
        return all.get(0)[variable];
    }

    int possible(int variable) {
        needVariable(variable);
        int bits = 0;
        for (int[] solution : allSolutions()) {
            bits |= 1 << solution[variable];
        }
        return bits;
    }

    int overlooked() {
        int number = 0;
        for (int i = 0; i < names.size(); i++) {
            number += domains.get(i).size() - Integer.bitCount(possible(i));
        }
        return number;
    }

    // ---- decisions

    private void remove(int variable, int value, int reason, Rule source) {
        domains.get(variable).remove(value);
        trail.add(new Fact(variable, value, reason, choices.size(), source));
    }

    private void propagate() {
        int before = -1;
        while (before != trail.size() && !hasFailed()) {
            before = trail.size();
            for (int i = 0; i < rules.size(); i++) {
                sweep(rules.get(i), i);
            }
            for (Rule set : sets) {
                sweep(set, 100);
            }
        }
    }

    private void sweep(Rule rule, int reason) {
        for (int variable : rule.variables) {
            for (int value : new TreeSet<>(domains.get(variable))) {
                if (!hasFailed() && leastSupport(rule, domains, variable, value) == null) {
                    remove(variable, value, reason, rule);
                }
            }
        }
    }

    int forbid(int variable, int value) {
        needVariable(variable);
        if (!domains.get(variable).contains(value)) {
            throw new IllegalArgumentException();
        }
        if (!choices.isEmpty() || hasFailed()) {
            throw new IllegalStateException();
        }
        int before = trail.size();
        remove(variable, value, -2, null);
        propagate();
        return trail.size() - before;
    }

    private void needChoice(int variable, int value) {
        needVariable(variable);
        if (!domains.get(variable).contains(value)) {
            throw new IllegalArgumentException();
        }
        if (isFixed(variable) || hasFailed()) {
            throw new IllegalStateException();
        }
    }

    int decide(int variable, int value) {
        needChoice(variable, value);
        int before = trail.size();
        made++;
        choices.add(new Choice(variable, value));
        for (int other : new TreeSet<>(domains.get(variable))) {
            if (other != value) {
                remove(variable, other, -1, null);
            }
        }
        propagate();
        return trail.size() - before;
    }

    int back() {
        if (choices.isEmpty()) {
            throw new IllegalStateException();
        }
        int before = trail.size();
        int level = choices.size();
        trail.removeIf(fact -> fact.level == level);
        choices.remove(level - 1);
        domains = copy(initial);
        trail.forEach(fact -> domains.get(fact.variable).remove(fact.value));
        return before - trail.size();
    }

    int decision(int index) {
        if (index < 0 || index >= choices.size()) {
            throw new IndexOutOfBoundsException();
        }
        return 10 * choices.get(index).variable + choices.get(index).value;
    }

    int probe(int variable, int value) {
        needChoice(variable, value);
        int facts = decide(variable, value);
        boolean failed = hasFailed();
        back();
        made--;
        return failed ? -1 : facts;
    }

    // ---- learning and searching

    private boolean isFailure(List<Choice> assignments) {
        List<TreeSet<Integer>> keptDomains = domains;
        List<Fact> keptTrail = trail;
        domains = copy(initial);
        trail.forEach(fact -> {
            if (fact.level == 0) {
                domains.get(fact.variable).remove(fact.value);
            }
        });
        trail = new ArrayList<>();
        assignments.forEach(it -> domains.get(it.variable).removeIf(value -> value != it.value));
        propagate();
        boolean failed = hasFailed();
        domains = keptDomains;
        trail = keptTrail;
        return failed;
    }

    int learn() {
        if (!hasFailed() || choices.isEmpty()) {
            throw new IllegalStateException();
        }
        List<Choice> left = new ArrayList<>(choices);
        for (Choice choice : choices) {
            List<Choice> others = new ArrayList<>(left);
            others.remove(choice);
            if (isFailure(others)) {
                left = others;
            }
        }
        Rule set = new Rule();
        set.kind = "learnt";
        left.sort((a, b) -> a.variable - b.variable);
        set.set.addAll(left);
        left.forEach(choice -> set.variables.add(choice.variable));
        sets.add(set);
        if (sets.size() > 12) {
            sets.remove(0);
        }
        back();
        propagate();
        return left.size();
    }

    int learnt(int set, int index) {
        if (set < 0 || set >= sets.size() || index < 0 || index >= sets.get(set).set.size()) {
            throw new IndexOutOfBoundsException();
        }
        Choice it = sets.get(set).set.get(index);
        return 10 * it.variable + it.value;
    }

    int search(int decisions) {
        if (decisions < 1 || decisions > 100) {
            throw new IllegalArgumentException();
        }
        int left = decisions;
        while (true) {
            if (hasFailed() && choices.isEmpty()) {
                return -1;
            } else if (hasFailed()) {
                learn();
            } else if (domains.stream().allMatch(domain -> domain.size() == 1)) {
                return 1;
            } else if (left == 0) {
                return 0;
            } else {
                int fewest = domains.stream().mapToInt(TreeSet::size).filter(size -> size > 1).min().getAsInt();
                int variable = 0;
                while (domains.get(variable).size() != fewest) {
                    variable++;
                }
                left--;
                decide(variable, domains.get(variable).first());
            }
        }
    }

    int restart() {
        int decisions = choices.size();
        while (!choices.isEmpty()) {
            back();
        }
        sets.clear();
        return decisions;
    }
}
