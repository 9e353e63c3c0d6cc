import java.util.NoSuchElementException;
import java.util.Random;

/** Random runs of calls, from fixed seeds: SupportSolver and PlainSolver must answer and throw the same. */
public final class RandomRunsTest {
    private static final String[] NAMES = {"a", "b", "var", "less", "counts", "values", "xyz", "k", "window", "c"};
    private static final int RUNS = 400;
    private static final int PROBLEMS = 6;
    private static final int CALLS = 40;

    private interface Answer {
        double get();
    }

    private final Random random;
    private final SupportSolver solver = new SupportSolver();
    private final PlainSolver plain = new PlainSolver();
    private final String run;
    private static int learnt = 0;
    private static int fullSets = 0;
    private static int deep = 0;

    private RandomRunsTest(int seed) {
        random = new Random(seed);
        run = "run " + seed + ": ";
    }

    private static String answer(Answer call) {
        try {
            return String.valueOf(call.get());
        } catch (IllegalStateException | IllegalArgumentException | IndexOutOfBoundsException
                | NoSuchElementException e) {
            return e.getClass().getSimpleName();
        }
    }

    private void same(String call, Answer got, Answer due) {
        Check.same(run + call, answer(got), answer(due));
    }

    private int below(int bound) {
        return random.nextInt(bound);
    }

    private String blank() {
        return below(12) == 0 ? below(2) == 0 ? "\n" : "  " : " ";
    }

    // ---- texts

    /** Small domains and as many constraints as can be, on few variables each: it often takes a search to fail. */
    private String hardText() {
        int variables = 5 + below(3);
        int size = variables > 6 ? 2 + below(2) : 2 + below(3);
        StringBuilder text = new StringBuilder();
        for (int i = 0; i < variables; i++) {
            text.append("var ").append(NAMES[i]).append(" 0 ").append(size - (below(4) == 0 ? 2 : 1)).append(';');
        }
        for (int i = 0; i < 8; i++) {
            int a = below(variables);
            int b = (a + 1 + below(variables - 1)) % variables;
            int c = below(variables);
            text.append(c == a || c == b || below(5) > 1 ? "differ " : "counts ").append(NAMES[a]).append(' ');
            text.append(NAMES[b]);
            if (text.charAt(text.lastIndexOf(";") + 1) == 'c') {
                int greatest = 1 + below(2);
                text.append(' ').append(NAMES[c]).append(" value ").append(below(size)).append(' ');
                text.append(below(greatest + 1)).append(' ').append(greatest);
            }
            text.append(';');
        }
        return text.toString();
    }

    /** Variables that are to differ by threes or twos, with hardly enough values: many sets are learnt. */
    private String crowdedText() {
        int variables = 4 + below(3);
        int size = Math.max(2, Math.min(4, variables - 1 - below(2)));
        StringBuilder text = new StringBuilder();
        for (int i = 0; i < variables; i++) {
            text.append("var ").append((char) ('a' + i)).append(" 0 ").append(size - 1).append(';');
        }
        for (int i = 0; i < 8; i++) {
            int a = below(variables);
            int b = (a + 1 + below(variables - 1)) % variables;
            int c = below(variables);
            boolean isPair = c == a || c == b;
            text.append(isPair ? "differ " : "counts ").append((char) ('a' + a)).append(' ').append((char) ('a' + b));
            for (int value = 0; value < size && !isPair; value++) {
                text.append(value == 0 ? " " + (char) ('a' + c) : "").append(" value ").append(value).append(" 0 1");
            }
            text.append(';');
        }
        return text.toString();
    }

    private String text() {
        int variables = below(10) == 0 ? below(8) : 2 + below(6);
        int widest = variables > 6 ? 3 : variables > 5 ? 4 : 5;
        int shift = below(NAMES.length);
        StringBuilder text = new StringBuilder();
        for (int i = 0; i < variables; i++) {
            int size = 1 + below(widest);
            int from = below(3) == 0 ? 0 : below(6 - size);
            text.append("var").append(blank()).append(NAMES[(i + shift) % NAMES.length]).append(blank()).append(from);
            text.append(blank()).append(from + size - 1).append(below(3) == 0 ? " ;\n" : ";");
        }
        int constraints = variables == 0 ? 0 : below(9);
        for (int i = 0; i < constraints; i++) {
            addConstraint(text, variables, shift);
        }
        return text.toString();
    }

    private void addConstraint(StringBuilder text, int variables, int shift) {
        int[] order = new int[variables];
        for (int i = 0; i < variables; i++) {
            int j = below(i + 1);
            order[i] = order[j];
            order[j] = i;
        }
        int kind = below(variables < 2 ? 2 : 5);
        int members = kind > 1 ? 2 : 1 + below(variables);
        if (kind == 1) {
            int width = 1 + below(Math.min(4, members + 1));
            int least = below(width + 1);
            text.append("window ").append(width).append(blank()).append(1 + below(31)).append(blank());
            text.append(least).append(blank()).append(least + below(width - least + 1));
        } else {
            text.append(kind == 0 ? "counts" : kind == 2 ? "less" : "differ");
        }
        for (int i = 0; i < members; i++) {
            text.append(blank()).append(NAMES[(order[i] + shift) % NAMES.length]);
        }
        int first = below(5);
        for (int i = 0; kind == 0 && i < 1 + first % 4; i++) {
            int least = below(3) == 0 ? 1 + below(2) : 0;
            int greatest = Math.min(7, least + below(4));
            text.append(blank()).append("value ").append((first + i) % 5).append(blank());
            text.append(below(9) == 0 ? "0" : "").append(least).append(blank()).append(greatest);
        }
        text.append(';');
    }

    private String spoilt(String text) {
        String pieces = "; \nvalue12 0 9az%\u00e9\u0000var counts abcdefg";
        StringBuilder spoilt = new StringBuilder(text);
        for (int i = 0; i < 1 + below(2); i++) {
            int at = below(spoilt.length() + 1);
            int from = below(pieces.length());
            int kind = below(4);
            if (kind == 0) {
                spoilt.insert(at, pieces.substring(from, Math.min(pieces.length(), from + 1 + below(7))));
            } else if (kind == 1) {
                spoilt.delete(at, Math.min(spoilt.length(), at + 1 + below(4)));
            } else if (kind == 2 && at < spoilt.length()) {
                spoilt.setCharAt(at, pieces.charAt(from));
            } else {
                spoilt.setLength(at);
            }
        }
        return spoilt.toString();
    }

    private void load(String text) {
        byte[] bytes = new byte[(text.length() + 19) / 20 * 20];
        for (int i = 0; i < text.length(); i++) {
            bytes[i] = (byte) text.charAt(i);
        }
        java.nio.IntBuffer words = java.nio.ByteBuffer.wrap(bytes).asIntBuffer();
        for (int i = 0; i < words.limit(); i += 5) {
            int at = i;
            same("append", () -> solver.append(words.get(at), words.get(at + 1), words.get(at + 2), words.get(at + 3),
                    words.get(at + 4)), () -> plain.append(words.get(at), words.get(at + 1), words.get(at + 2),
                    words.get(at + 3), words.get(at + 4)));
        }
        same("truncate", () -> solver.truncate(text.length()), () -> plain.truncate(text.length()));
        same("load of " + text, solver::load, plain::load);
        same("errorCode of " + text, solver::errorCode, plain::errorCode);
        same("errorPosition of " + text, solver::errorPosition, plain::errorPosition);
    }

    // ---- calls

    private void compareState() {
        for (int what = -1; what <= 8; what++) {
            int it = what;
            same("report " + it, () -> solver.report(it), () -> plain.report(it));
        }
        for (int index = -1; index <= plain.report(3); index++) {
            int it = index;
            for (int what = 0; what < 4; what++) {
                int asked = what;
                same("fact " + it + " " + what, () -> solver.fact(it, asked), () -> plain.fact(it, asked));
            }
        }
        for (int variable = -1; variable <= plain.report(0); variable++) {
            int it = variable;
            same("domain " + it, () -> solver.domain(it), () -> plain.domain(it));
        }
        for (int i = 0; i <= plain.report(2); i++) {
            int it = i;
            same("decision " + it, () -> solver.decision(it), () -> plain.decision(it));
        }
        for (int i = 0; i <= plain.report(4) * 8; i++) {
            int it = i;
            same("learnt " + it, () -> solver.learnt(it / 8, it % 8), () -> plain.learnt(it / 8, it % 8));
        }
        fullSets += plain.report(4) == 12 ? 1 : 0;
    }

    private void explain() {
        for (int index = -1; index <= plain.report(3); index++) {
            int it = index;
            same("explanationSize " + it, () -> solver.explanationSize(it), () -> plain.explanationSize(it));
            for (int k = -1; k < 5; k++) {
                int asked = k;
                same("explained " + it + " " + k, () -> solver.explained(it, asked), () -> plain.explained(it, asked));
            }
        }
        int last = plain.report(3) - 1 - below(3);
        same("depth " + last, () -> solver.depth(last), () -> plain.depth(last));
        deep += last >= 0 && plain.depth(last) > 3 ? 1 : 0;
    }

    private void askSupports() {
        int c = below(10) - 1;
        int v = below(9) - 1;
        int w = below(9) - 1;
        for (int value = -1; value <= 5; value++) {
            int x = value;
            same("isSupported", () -> solver.isSupported(c, v, x) ? 1 : 0, () -> plain.isSupported(c, v, x) ? 1 : 0);
            same("support", () -> solver.support(c, v, x, w), () -> plain.support(c, v, x, w));
            same("watchers", () -> solver.watchers(v, x), () -> plain.watchers(v, x));
            same("factOf", () -> solver.factOf(v, x), () -> plain.factOf(v, x));
            same("constraint", () -> solver.constraint(c, x), () -> plain.constraint(c, x));
        }
        same("tuples", () -> solver.tuples(c), () -> plain.tuples(c));
        same("tightness", () -> solver.tightness(c), () -> plain.tightness(c));
    }

    private void askSolutions() {
        same("solutions", solver::solutions, plain::solutions);
        same("overlooked", solver::overlooked, plain::overlooked);
        int v = below(9) - 1;
        same("first", () -> solver.first(v), () -> plain.first(v));
        same("possible", () -> solver.possible(v), () -> plain.possible(v));
    }

    private void act() {
        int v = below(8) - (below(20) == 0 ? 1 : 0);
        int x = below(5) + (below(20) == 0 ? below(60) - 20 : 0);
        switch (below(12)) {
            case 0:
                if (below(3) == 0) {
                    same("forbid " + v + " " + x, () -> solver.forbid(v, x), () -> plain.forbid(v, x));
                }
                break;
            case 1:
                same("back", solver::back, plain::back);
                break;
            case 2:
                same("probe " + v + " " + x, () -> solver.probe(v, x), () -> plain.probe(v, x));
                break;
            case 3:
                int most = below(8) == 0 ? below(105) : below(3);
                same("search " + most, () -> solver.search(most), () -> plain.search(most));
                break;
            case 4:
                if (below(6) == 0) {
                    same("restart", solver::restart, plain::restart);
                }
                break;
            case 5:
            case 6:
            case 7:
                learnt += plain.report(5) == 1 && plain.report(2) > 0 ? 1 : 0;
                same("learn", solver::learn, plain::learn);
                break;
            default:
                same("decide " + v + " " + x, () -> solver.decide(v, x), () -> plain.decide(v, x));
                break;
        }
    }

    private void go() {
        for (int i = 0; i < PROBLEMS; i++) {
            goThroughProblem();
        }
    }

    private void goThroughProblem() {
        int kind = below(4);
        String text = kind == 0 ? text() : kind == 1 ? hardText() : crowdedText();
        load(below(3) == 0 ? spoilt(text) : text);
        if (plain.errorCode() != 0 && below(3) > 0) {
            load(text);
        }
        for (int i = 0; i < CALLS; i++) {
            act();
            compareState();
            switch (below(12)) {
                case 0:
                    explain();
                    break;
                case 1:
                    askSupports();
                    break;
                case 2:
                    askSolutions();
                    break;
                default:
                    break;
            }
        }
        load(spoilt(text));
        compareState();
    }

    public static void main(String[] args) {
        int first = args.length > 0 ? Integer.parseInt(args[0]) : 0;
        int runs = args.length > 1 ? Integer.parseInt(args[1]) : RUNS;
        for (int seed = first; seed < first + runs; seed++) {
            new RandomRunsTest(seed).go();
        }
        System.out.println(learnt + " sets learnt, " + fullSets + " states with 12 sets, " + deep + " deep facts");
        Check.end();
    }
}
