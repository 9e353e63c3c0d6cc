/** Promises 1 to 6: the new object, the text buffer, loading, and the errors of a text. */
public final class TextTest {
    private static final String TWO = "var a 0 1;var b 0 1;";
    private static final String SEVEN = "var a 0 1;var b 0 1;var c 0 1;var d 0 1;var e 0 1;var f 0 1;var g 0 1;";
    private static final String EIGHT_RULES = TWO + "less a b;".repeat(8);

    public static void main(String[] args) {
        newObject();
        append();
        truncate();
        load();
        rightTexts();
        wrongVariables();
        wrongConstraints();
        wrongCounts();
        wrongWindows();
        wrongBytes();
        tooMany();
        manyErrors();
        Check.end();
    }

    private static void newObject() {
        SupportSolver solver = new SupportSolver();
        for (int what = 0; what < 8; what++) {
            Check.is("report of a new object", solver.report(what), 0);
        }
        Check.is("solutions of the empty text", solver.solutions(), 1);
        Check.is("overlooked of the empty text", solver.overlooked(), 0);
        Check.is("errorCode before load", solver.errorCode(), 0);
        Check.is("errorPosition before load", solver.errorPosition(), SupportSolver.NONE);
        Check.is("search without variables", solver.search(1), 1);
        Check.is("restart without decisions", solver.restart(), 0);
        Check.is("length of an empty buffer", solver.truncate(0), 0);
        Check.isThrown("domain of a new object", Check.INDEX, () -> solver.domain(0));
        Check.isThrown("first of a new object", Check.INDEX, () -> solver.first(0));
        Check.isThrown("constraint of a new object", Check.INDEX, () -> solver.constraint(0, 0));
        Check.isThrown("learn on a new object", Check.STATE, solver::learn);
        Check.isThrown("back on a new object", Check.STATE, solver::back);
    }

    private static void append() {
        SupportSolver solver = new SupportSolver();
        for (int length = 20; length <= 600; length += 20) {
            Check.is("append", solver.append(0x20202020, 0x20202020, 0x20202020, 0x20202020, 0x20202020), length);
        }
        Check.isThrown("append to a full buffer", Check.STATE, () -> solver.append(0, 0, 0, 0, 0));
        Check.is("truncate", solver.truncate(581), 581);
        Check.isThrown("append of 20 bytes to 581", Check.STATE, () -> solver.append(0, 0, 0, 0, 0));
        Check.is("the length stays", solver.truncate(580), 580);
        Check.is("append of 20 bytes to 580", solver.append(0x20202020, 0x20202020, 0x20202020, 0x20202020, 0x20202020),
                600);
        Check.is("600 blanks are an empty text", solver.load(), 0);
        // "var a 0 1;var b 1 3;"
        solver.append(0x76617220, 0x61203020, 0x313b7661, 0x72206220, 0x3120333b);
        solver.load();
        Check.is("bytes come with the most significant one first", solver.domain(1), 14);
        solver.append(0x76617220, 0x61203020, 0x313b7661, 0x72206220, 0x312033ff);
        Check.isThrown("a byte over 127", Check.ARGUMENT, solver::load);
        Check.is("position of the byte over 127", solver.errorPosition(), 19);
    }

    private static void truncate() {
        SupportSolver solver = new SupportSolver();
        Check.put(solver, "var a 0 1;var b 0 1;");
        Check.isThrown("truncate to -1", Check.INDEX, () -> solver.truncate(-1));
        Check.isThrown("truncate to 21", Check.INDEX, () -> solver.truncate(21));
        Check.isThrown("truncate far", Check.INDEX, () -> solver.truncate(Integer.MAX_VALUE));
        Check.isThrown("truncate below", Check.INDEX, () -> solver.truncate(Integer.MIN_VALUE));
        Check.is("truncate to the same", solver.truncate(20), 20);
        Check.is("truncate to 10", solver.truncate(10), 10);
        Check.isThrown("truncate back to 20", Check.INDEX, () -> solver.truncate(20));
        solver.load();
        Check.is("what is behind the length is no text", solver.report(0), 1);
    }

    private static void load() {
        SupportSolver solver = Check.solver("var a 0 1;var b 0 1;var c 0 1;differ a b;differ b c;differ a c;");
        solver.search(2);
        Check.put(solver, "var a 0 2;var b 0 2;less a b;");
        Check.is("load answers the number of facts", solver.load(), 2);
        int[] due = {2, 1, 0, 2, 0, 0, 0, 0};
        for (int what = 0; what < 8; what++) {
            Check.is("everything begins anew, report " + what, solver.report(what), due[what]);
        }
        Check.is("the buffer is empty after load", solver.truncate(0), 0);
        Check.isThrown("nothing is left", Check.INDEX, () -> solver.truncate(1));
        solver.decide(0, 0);
        Check.put(solver, "var x 0 4;var y 0 4;var x");
        Check.isThrown("load of a wrong text", Check.ARGUMENT, solver::load);
        Check.is("errorCode", solver.errorCode(), 3);
        Check.is("errorPosition", solver.errorPosition(), 24);
        Check.isThrown("the buffer is empty after an error, too", Check.INDEX, () -> solver.truncate(1));
        int[] stays = {2, 1, 1, 3, 0, 0, 1, 1};
        for (int what = 0; what < 8; what++) {
            Check.is("everything else stays, report " + what, solver.report(what), stays[what]);
        }
        Check.is("the domain stays", solver.domain(1), 6);
        Check.is("the solutions stay", solver.solutions(), 2);
        Check.put(solver, "var q 0 0;");
        Check.is("errorCode stays until load", solver.errorCode(), 3);
        Check.is("load of a right text", solver.load(), 0);
        Check.is("errorCode goes", solver.errorCode(), 0);
        Check.is("errorPosition goes", solver.errorPosition(), SupportSolver.NONE);
        Check.is("report 6 of a variable with one value", solver.report(6), 1);
        Check.put(solver, "var a 0 4;differ a a;");
        Check.isThrown("load", Check.ARGUMENT, solver::load);
        Check.is("load of the empty text", solver.load(), 0);
        Check.is("no variables", solver.report(0), 0);
        Check.put(solver, "var a 1 1;var b 1 1;differ a b;");
        Check.is("load that fails at once", solver.load(), 1);
        Check.is("it has failed", solver.report(5), 1);
    }

    private static void right(String text, int variables, int constraints) {
        SupportSolver solver = new SupportSolver();
        Check.put(solver, text);
        Check.same("load of " + text, Check.thrown(solver::load), "nothing");
        Check.is("errorCode of " + text, solver.errorCode(), 0);
        Check.is("errorPosition of " + text, solver.errorPosition(), -1);
        Check.is("variables of " + text, solver.report(0), variables);
        Check.is("constraints of " + text, solver.report(1), constraints);
    }

    private static void wrong(String text, int code, int position) {
        SupportSolver solver = new SupportSolver();
        Check.put(solver, text);
        Check.isThrown("load of " + text, Check.ARGUMENT, solver::load);
        Check.is("errorCode of " + text, solver.errorCode(), code);
        Check.is("errorPosition of " + text, solver.errorPosition(), position);
    }

    private static void rightTexts() {
        right("", 0, 0);
        right(" \n \n", 0, 0);
        right("var a 0 4;", 1, 0);
        right("\n var\na\n00 04\n;\n", 1, 0);
        right("var abcdef4 4;var abcdeg0 0;", 2, 0);
        right("var var 0 1;var less 0 1;less less var;", 2, 1);
        right("var counts 0 1;var window 0 1;counts counts window value 0 0 7;window 1 1 0 1 window counts;", 2, 2);
        right("var values 0 1;var valu 0 1;counts valu values value 0 0 7 value 4 0 7;", 2, 1);
        right(SEVEN, 7, 0);
        right(SEVEN + "counts g f e d c b a value 1 7 7 value 0 0 0 value 2 0 7 value 3 0 0 value 4 0 7;", 7, 1);
        right(EIGHT_RULES, 2, 8);
        right(EIGHT_RULES + " \n", 2, 8);
        right(TWO + "window 4 31 0 4 a;window 1 1 1 1 b a;window 04 01 04 04 a b;", 2, 3);
        right(TWO + "differ b a;differ a b;", 2, 2);
        right("var vbr 0 1;var walue 0 1;counts vbr walue value 0 0 1;less vbr walue;", 2, 2);
        names();
    }

    /** Names that have a beginning or an end, or all letters but one, in common are different. */
    private static void names() {
        String[] names = {"azaz", "zzaz", "azbz", "azza", "azay", "aza", "zaz", "az", "a", "z", "cz", "ez", "iz", "qz",
            "azazaz", "czazaz", "azczaz", "azazcz", "azazac", "azazab", "aaaaaa", "aaaaa", "zzzzzz", "zzzzz", "b", "p",
            "q", "ap", "pa"};
        for (String name : names) {
            for (String other : names) {
                if (!name.equals(other)) {
                    right("var " + name + " 0 1;var " + other + " 0 1;less " + other + " " + name + ";", 2, 1);
                    wrong("var " + name + " 0 1;less " + other + " " + name + ";", 3, name.length() + 14);
                }
            }
        }
    }

    private static void wrongVariables() {
        wrong("vara0 4;", 1, 0);
        wrong("xar a 0 4;", 1, 0);
        wrong("va a 0 4;", 1, 0);
        wrong("vas a 0 4;", 1, 0);
        wrong("var", 1, 3);
        wrong("var  ", 1, 5);
        wrong("var 1 0 1;", 1, 4);
        wrong("var value 0 1;", 1, 4);
        wrong("var abcdefg 0 1;", 1, 4);
        wrong("var ;", 1, 4);
        wrong("var a b 1;", 1, 6);
        wrong("var a;", 1, 5);
        wrong("var a 5 4;", 2, 6);
        wrong("var a 99 4;", 2, 6);
        wrong("var a 000 1;", 1, 6);
        wrong("var a 99999999999999999999 1;", 1, 6);
        wrong("var a 01;", 1, 8);
        wrong("var a 1 0;", 2, 8);
        wrong("var a 0 5;", 2, 8);
        wrong("var a 0 012;", 1, 8);
        wrong("var a 0 x;", 1, 8);
        wrong("var a 0 1", 1, 9);
        wrong("var a 0 1 \n", 1, 11);
        wrong("var a 0 1 1;", 1, 10);
        wrong("var a 0 1;;", 1, 10);
        wrong(";", 1, 0);
        wrong("7", 1, 0);
        wrong("value", 1, 0);
        wrong("var a 0 1;var a 0 1;", 3, 14);
        wrong("var a 0 1;var b 0 1;var a", 3, 24);
        wrong("var a 0 1;vars b 0 1;", 1, 10);
        wrong(TWO + "less a b;var c 0 1;", 1, 29);
    }

    private static void wrongConstraints() {
        wrong("less a b;", 3, 5);
        wrong(TWO + "lesser a b;", 1, 20);
        wrong(TWO + "mess a b;", 1, 20);
        wrong(TWO + "liffer a b;", 1, 20);
        wrong(TWO + "sounts a value 0 0 1;", 1, 20);
        wrong(TWO + "cindow 1 1 0 1 a;", 1, 20);
        wrong(TWO + "counts a talue 0 0 1;", 3, 29);
        wrong(TWO + "less;", 1, 24);
        wrong(TWO + "less a;", 1, 26);
        wrong(TWO + "less a c;", 3, 27);
        wrong(TWO + "less a a;", 3, 27);
        wrong(TWO + "less c c;", 3, 25);
        wrong(TWO + "less a value;", 1, 27);
        wrong(TWO + "less a abcdefg;", 1, 27);
        wrong(TWO + "less a 1;", 1, 27);
        wrong(TWO + "less a b a;", 1, 29);
        wrong(TWO + "less a b", 1, 28);
        wrong(TWO + "differ b b;", 3, 29);
        wrong(TWO + "differ a x;", 3, 29);
        wrong(TWO + "differ a", 1, 28);
        wrong(TWO + "differ 0 a", 1, 27);
    }

    private static void wrongCounts() {
        wrong(TWO + "counts", 1, 26);
        wrong(TWO + "counts value 0 0 1;", 1, 27);
        wrong(TWO + "counts ;", 1, 27);
        wrong(TWO + "counts a;", 1, 28);
        wrong(TWO + "counts a 0;", 1, 29);
        wrong(TWO + "counts a a value 0 0 1;", 3, 29);
        wrong(TWO + "counts a c value 0 0 1;", 3, 29);
        wrong(TWO + "counts a abcdefg value 0 0 1;", 1, 29);
        wrong(TWO + "counts a value;", 1, 34);
        wrong(TWO + "counts a value 5 0 1;", 2, 35);
        wrong(TWO + "counts a value 0 8 8;", 2, 37);
        wrong(TWO + "counts a value 0 2 1;", 2, 39);
        wrong(TWO + "counts a value 0 0 8;", 2, 39);
        wrong(TWO + "counts a value 0 0;", 1, 38);
        wrong(TWO + "counts a value 0 0 1 1;", 1, 41);
        wrong(TWO + "counts a value 0 0 1 b;", 1, 41);
        wrong(TWO + "counts a value 0 0 1 value 0 0 1;", 3, 47);
        wrong(TWO + "counts a value 0 0 1 value 4 0 1 value 00 9 9;", 3, 59);
        wrong(TWO + "counts a value 0 0 1 value 32 0 1;", 2, 47);
        wrong(TWO + "counts a value 0 0 1 value 000 0 1;", 1, 47);
        wrong(TWO + "counts a value 0 0 1", 1, 40);
        wrong(SEVEN + "counts a b c d e f g a value 0 0 1;", 3, 91);
        wrong(SEVEN + "counts a b c d e f g h value 0 0 1;", 3, 91);
        wrong(TWO + "counts a value 0 0 1 value 1 0 1 value 2 0 1 value 3 0 1 value 4 0 1 value 1 0 1;", 3, 95);
        wrong(TWO + "counts a value 0 0 1 value 1 0 1 value 2 0 1 value 3 0 1 value 4 0 1 value 5 0 1;", 2, 95);
    }

    private static void wrongWindows() {
        wrong(TWO + "window a", 1, 27);
        wrong(TWO + "window 0 1 0 0 a;", 2, 27);
        wrong(TWO + "window 5 1 0 0 a;", 2, 27);
        wrong(TWO + "window 1 0 0 0 a;", 2, 29);
        wrong(TWO + "window 1 32 0 0 a;", 2, 29);
        wrong(TWO + "window 2 1 3 3 a;", 2, 31);
        wrong(TWO + "window 2 1 1 0 a;", 2, 33);
        wrong(TWO + "window 2 1 1 3 a;", 2, 33);
        wrong(TWO + "window 2 1 1 a;", 1, 33);
        wrong(TWO + "window 2 1 1 2;", 1, 34);
        wrong(TWO + "window 2 1 1 2 3 a;", 1, 35);
        wrong(TWO + "window 2 1 1 2 value;", 1, 35);
        wrong(TWO + "window 2 1 1 2 a value 0 0 1;", 1, 37);
        wrong(TWO + "window 2 1 1 2 a a;", 3, 37);
        wrong(TWO + "window 2 1 1 2 a b c;", 3, 39);
        wrong(TWO + "window 2 1 1 2 a", 1, 36);
        wrong(SEVEN + "window 2 1 1 2 a b c d e f g a;", 3, 99);
    }

    private static void wrongBytes() {
        wrong("A", 1, 0);
        wrong("var a\t0 1;", 1, 5);
        wrong("var a 0 1;\r\n", 1, 10);
        wrong("var a 0-1;", 1, 7);
        wrong("var a\u0000 0 1;", 1, 5);
        wrong("var a\u00a0 0 1;", 1, 5);
        wrong("var \u00e9", 1, 4);
        wrong("var aB 0 1;", 1, 5);
        wrong("var a 0 1;`", 1, 10);
        wrong("var a 0 1;{", 1, 10);
        wrong("var a 0 /;", 1, 8);
        wrong("var a 0 :;", 1, 8);
    }

    private static void tooMany() {
        wrong(SEVEN + "var h 0 1;", 4, 70);
        wrong(SEVEN + "var", 4, 70);
        wrong(SEVEN + "less a b;var", 1, 79);
        wrong(EIGHT_RULES + "less a b;", 4, 92);
        wrong(EIGHT_RULES + "differ", 4, 92);
        wrong(EIGHT_RULES + " counts", 4, 93);
        wrong(EIGHT_RULES + "window", 4, 92);
        wrong(EIGHT_RULES + "var", 1, 92);
        wrong(EIGHT_RULES + "a", 1, 92);
        wrong(EIGHT_RULES + ";", 1, 92);
    }

    private static void manyErrors() {
        wrong("var a 9 9;var a A", 2, 6);
        wrong("A var", 1, 0);
        wrong(SEVEN + "var a 9 9;", 4, 70);
    }
}
