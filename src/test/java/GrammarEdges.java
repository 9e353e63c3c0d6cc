import java.util.ArrayList;
import java.util.List;
import java.util.Set;
import java.util.TreeSet;

/** The boundary cases of the paragraphs GENERAL and THE TEXT. */
final class GrammarEdges {
    private static final String TWO = "var a 0 1;var b 0 1;";
    private static final String SEVEN = "var a 0 1;var b 0 1;var c 0 1;var d 0 1;var e 0 1;var f 0 1;var g 0 1;";
    /** A text with each kind of token wherever it may stand. */
    private static final String[] TOKENS = {"var", "abcdef", "0", "4", ";", "var", "b", "00", "04", ";", "counts",
        "abcdef", "b", "value", "0", "0", "7", "value", "4", "1", "1", ";", "window", "4", "31", "0", "4", "b",
        "abcdef", ";", "less", "abcdef", "b", ";", "differ", "b", "abcdef", ";"};

    private GrammarEdges() {
    }

    private static void right(String text) {
        SupportSolver solver = new SupportSolver();
        Check.put(solver, text);
        Check.same("load of " + text, Check.thrown(solver::load), "nothing");
        Check.is("errorCode of " + text, solver.errorCode(), 0);
        Check.is("errorPosition of " + text, solver.errorPosition(), SupportSolver.NONE);
    }

    /** The text is refused with this error, and the problem before it stays. */
    private static void wrong(String text, int code, int position) {
        SupportSolver solver = Check.solver("var a 0 2;var q 0 2;less a q;");
        solver.decide(0, 1);
        Check.put(solver, text);
        Check.isThrown("load of " + text, Check.ARGUMENT, solver::load);
        Check.is("errorCode of " + text, solver.errorCode(), code);
        Check.is("errorPosition of " + text, solver.errorPosition(), position);
        Check.same("reports after " + text, Shown.reports(solver), "2 1 1 4 0 0 2 1");
        Check.same("domains after " + text, Shown.domains(solver), "2 4");
    }

    private static void rightOrOutOfRange(boolean isRight, String text, int position) {
        if (isRight) {
            right(text);
        } else {
            wrong(text, 2, position);
        }
    }

    /** The first tokens, with a blank between each two. */
    private static String start(int tokens) {
        StringBuilder text = new StringBuilder();
        for (int i = 0; i < tokens; i++) {
            text.append(TOKENS[i]).append(' ');
        }
        return text.toString();
    }

    // ---- GENERAL

    static void general_sevenVariablesAndEightConstraintsAreAllowed() {
        SupportSolver solver = Check.solver(SEVEN + "less a b;".repeat(8));
        Check.same("reports", Shown.reports(solver), "7 8 0 2 0 0 2 0");
        wrong(SEVEN + "var h 0 1;", 4, 70);
        wrong(SEVEN + "less a b;".repeat(9), 4, 70 + 8 * 9);
    }

    static void general_noneIsMinusOne() {
        Check.is("NONE", SupportSolver.NONE, -1);
    }

    static void general_valuesFromZeroToFour() {
        Check.is("domain", Check.solver("var a 0 4;").domain(0), 31);
        Check.is("0 alone", Check.solver("var a 0 0;").domain(0), 1);
        Check.is("4 alone", Check.solver("var a 4 4;").domain(0), 16);
    }

    static void general_numbersInTheOrderOfTheText() {
        SupportSolver solver = Check.solver("var z 0 1;var a 2 3;differ a z;less z a;");
        Check.same("domains", Shown.domains(solver), "3 12");
        Check.is("the first constraint", solver.constraint(0, 0), 3);
        Check.is("the second constraint", solver.constraint(1, 0), 2);
    }

    static void general_aVariableIsFixedWithOneValueNotWithNoneOrTwo() {
        SupportSolver solver = Check.solver("var a 0 1;");
        Check.is("two values", solver.report(6), 0);
        solver.forbid(0, 1);
        Check.is("one value", solver.report(6), 1);
        solver.forbid(0, 0);
        Check.is("no value", solver.report(6), 0);
    }

    static void general_the512thCallStillAnswers() {
        SupportSolver solver = Check.solver("var a 0 2;var b 0 2;less a b;");
        // So far: append twice, truncate, load.
        int calls = 4;
        while (calls + 4 < 511) {
            Check.is("decide", solver.decide(0, 0), 1);
            Check.is("domain", solver.domain(1), 6);
            Check.is("probe", solver.probe(1, 2), 1);
            Check.is("back", solver.back(), 1);
            calls += 4;
        }
        while (calls < 511) {
            Check.is("tuples", solver.tuples(0), 3);
            calls++;
        }
        Check.is("the 512th call", solver.solutions(), 3);
    }

    // ---- THE TEXT: tokens and blanks

    static void theText_bytes10And32AloneAreBlanks() {
        for (int letter = 0; letter < 256; letter++) {
            char it = (char) letter;
            if (it == ' ' || it == '\n') {
                right("var" + it + "a 0 1;");
                right(String.valueOf(it));
            } else {
                // With a letter the word is another one; all others stand behind "var".
                wrong("var" + it + "a 0 1;", 1, it >= 'a' && it <= 'z' ? 0 : 3);
                wrong(String.valueOf(it), 1, 0);
            }
        }
    }

    static void theText_everyByteBehindANumber() {
        for (int letter = 0; letter < 256; letter++) {
            char it = (char) letter;
            String text = "var a 0 1" + it + ";";
            if (it == ' ' || it == '\n') {
                right(text);
            } else if (it >= '0' && it <= '9') {
                wrong(text, 2, 8);
            } else {
                wrong(text, 1, it == ';' ? 10 : 9);
            }
        }
    }

    static void theText_everyByteBehindAName() {
        for (int letter = 0; letter < 256; letter++) {
            char it = (char) letter;
            String text = "var a" + it + " 0 1;";
            if (it == ' ' || it == '\n' || it >= 'a' && it <= 'z') {
                right(text);
            } else if (it >= '5' && it <= '9') {
                wrong(text, 2, 5);
            } else if (it >= '1' && it <= '4') {
                // The digit is the first number, so 0 is the second one.
                wrong(text, 2, 7);
            } else {
                wrong(text, 1, it == '0' ? 9 : 5);
            }
        }
    }

    static void theText_blanksBeforeBetweenAndBehind() {
        right(start(TOKENS.length));
        right(" \n" + start(TOKENS.length) + "\n \n");
        right("\n" + start(TOKENS.length).replace(" ", "  \n"));
        right("");
        right(" ");
    }

    static void theText_blanksAreNeededOnlyWhereTokensWouldGrow() {
        right("var a0 4;var b1 3;counts a b value0 1 1value4 0 1;window1 1 0 1a b;less a b;");
        wrong("vara 0 4;", 1, 0);
        wrong("var a 04;", 1, 8);
        wrong(TWO + "less ab;", 3, 25);
        wrong(TWO + "lessa b;", 1, 20);
        wrong(TWO + "counts avalue 0 0 1;", 3, 27);
        wrong(TWO + "window 11 0 1 a;", 2, 27);
    }

    static void theText_noBlanksInsideTokens() {
        wrong("va r a 0 1;", 1, 0);
        wrong("var a b 0 1;", 1, 6);
        wrong("var a 0 0 4;", 1, 10);
    }

    static void theText_twoDigitsAreANumberThreeAreNot() {
        right("var a 00 04;");
        wrong("var a 000 4;", 1, 6);
        wrong("var a 0 004;", 1, 8);
        wrong("var a 10 4;", 2, 6);
        wrong("var a 100 4;", 1, 6);
        wrong("var a 4294967296 4;", 1, 6);
        wrong("var a 0 18446744073709551617;", 1, 8);
        right(TWO + "window 01 01 00 01 a;");
        wrong(TWO + "window 001 01 00 01 a;", 1, 27);
        wrong(TWO + "window 01 001 00 01 a;", 1, 30);
        wrong(TWO + "window 01 01 000 01 a;", 1, 33);
        wrong(TWO + "window 01 01 00 001 a;", 1, 36);
        wrong(TWO + "counts a value 000 0 1;", 1, 35);
        wrong(TWO + "counts a value 0 000 1;", 1, 37);
        wrong(TWO + "counts a value 0 0 001;", 1, 39);
    }

    static void theText_sixLettersAreANameSevenAreNot() {
        right("var abcdef 0 1;var bcdefg 0 1;less abcdef bcdefg;differ bcdefg abcdef;"
                + "counts abcdef bcdefg value 0 0 1;window 1 1 0 1 bcdefg abcdef;");
        wrong("var abcdefg 0 1;", 1, 4);
        wrong(TWO + "less abcdefg b;", 1, 25);
        wrong(TWO + "less a abcdefg;", 1, 27);
        wrong(TWO + "differ abcdefg b;", 1, 27);
        wrong(TWO + "differ a abcdefg;", 1, 29);
        wrong(TWO + "counts abcdefg value 0 0 1;", 1, 27);
        wrong(TWO + "counts a abcdefg value 0 0 1;", 1, 29);
        wrong(TWO + "window 1 1 0 1 abcdefg;", 1, 35);
        wrong(TWO + "window 1 1 0 1 a abcdefg;", 1, 37);
        wrong("var " + "a".repeat(590) + " 0 1;", 1, 4);
    }

    static void theText_aNameThatIsTheStartOfALongWordIsNotThatWord() {
        wrong("var abcdef 0 1;var b 0 1;less abcdefg b;", 1, 30);
        wrong("var abcdef 0 1;var b 0 1;less abcde b;", 3, 30);
    }

    static void theText_valueIsNoName() {
        wrong("var value 0 1;", 1, 4);
        wrong(TWO + "less value b;", 1, 25);
        wrong(TWO + "less a value;", 1, 27);
        wrong(TWO + "differ value b;", 1, 27);
        wrong(TWO + "counts value 0 0 1;", 1, 27);
        wrong(TWO + "window 1 1 0 1 value;", 1, 35);
        wrong(TWO + "window 1 1 0 1 a value;", 1, 37);
        right("var valu 0 1;var values 0 1;var aluev 0 1;counts values valu value 0 0 1;");
    }

    static void theText_theOtherWordsOfTheGrammarAreNames() {
        right("var var 0 1;var counts 0 1;var window 0 1;var less 0 1;var differ 0 1;counts counts window less value 0 "
                + "0 1;window 1 1 0 1 window var;less less differ;differ differ less;");
    }

    static void theText_wordsThatDifferInOneLetterAreOtherWords() {
        String[] starts = {"", TWO, TWO, TWO, TWO, TWO + "counts a "};
        String[] words = {"var", "counts", "window", "less", "differ", "value"};
        for (int i = 0; i < words.length; i++) {
            // Where a count may begin a NAME may stand, too, but no variable has it.
            int code = i == 5 ? 3 : 1;
            int length = words[i].length();
            for (int at = 0; at < length; at++) {
                String other = words[i].substring(0, at) + "q" + words[i].substring(at + 1);
                wrong(starts[i] + other, code, starts[i].length());
            }
            for (int at = 1; at < length; at++) {
                wrong(starts[i] + words[i].substring(0, at), code, starts[i].length());
                wrong(starts[i] + words[i].substring(at), code, starts[i].length());
            }
            wrong(starts[i] + words[i] + "s", length < 6 ? code : 1, starts[i].length());
        }
    }

    static void theText_differentWordsAreDifferentNames() {
        List<String> names = new ArrayList<>();
        String letters = "abcopqxyz";
        for (int i = 0; i < letters.length(); i++) {
            names.add(letters.substring(i, i + 1));
            for (int j = 0; j < letters.length(); j++) {
                names.add("" + letters.charAt(i) + letters.charAt(j));
                names.add("mmmm" + letters.charAt(i) + letters.charAt(j));
            }
            for (int at = 0; at < 6; at++) {
                names.add("mmmmmm".substring(0, at) + letters.charAt(i) + "mmmmmm".substring(at + 1));
            }
        }
        Set<String> all = new TreeSet<>(names);
        for (String name : all) {
            for (String other : all) {
                if (!name.equals(other)) {
                    right("var " + name + " 0 0;var " + other + " 1 1;less " + name + " " + other + ";");
                }
            }
        }
    }

    // ---- THE TEXT: the grammar

    static void theText_variablesOrConstraintsMayBeMissing() {
        right("");
        right("var a 0 1;");
        wrong("less a b;var a 0 1;", 3, 5);
    }

    static void theText_noVariableBehindAConstraint() {
        wrong(TWO + "less a b;var c 0 1;", 1, 29);
    }

    static void theText_tokensThatCanStandNowhere() {
        for (int i = 0; i < TOKENS.length; i++) {
            String before = start(i);
            wrong(before + "?", 1, before.length());
            wrong(before + "123", 1, before.length());
            wrong(before + "abcdefg", 1, before.length());
            wrong(before + "A", 1, before.length());
        }
        String all = start(TOKENS.length);
        wrong(all + "?", 1, all.length());
        wrong(all + ";", 1, all.length());
        wrong(all + "1", 1, all.length());
        wrong(all + "value", 1, all.length());
    }

    static void theText_eachTokenWhereAnotherKindIsDue() {
        for (int i = 0; i < TOKENS.length; i++) {
            String before = start(i);
            boolean isNumber = TOKENS[i].charAt(0) <= '9';
            // The second count and the second name of the window may be missing.
            boolean isEnd = TOKENS[i].equals(";") || i == 17 || i == 28;
            if (!isNumber) {
                wrong(before + "4 ", 1, before.length());
            }
            if (!isEnd) {
                wrong(before + ";", 1, before.length());
            }
            if (isNumber) {
                wrong(before + "abcdef", 1, before.length());
                wrong(before + "value", 1, before.length());
            }
        }
    }

    static void theText_theEndWhereItCannotStand() {
        for (int i = 1; i < TOKENS.length; i++) {
            String blank = start(i);
            String bare = blank.substring(0, blank.length() - 1);
            if (TOKENS[i - 1].equals(";")) {
                right(blank);
                right(bare);
            } else {
                wrong(blank, 1, blank.length());
                wrong(bare, 1, bare.length());
                wrong(bare + "  \n", 1, bare.length() + 3);
            }
        }
    }

    static void theText_countsNeedANameAndACount() {
        right(TWO + "counts a value 0 0 1;");
        wrong(TWO + "counts value 0 0 1;", 1, 27);
        wrong(TWO + "counts a;", 1, 28);
        wrong(TWO + "counts;", 1, 26);
        wrong(TWO + "counts a value 0 0 1 b;", 1, 41);
    }

    static void theText_allVariablesAndAllValuesOfCounts() {
        String full = SEVEN + "counts g f e d c b a value 4 0 7 value 3 0 7 value 2 0 7 value 1 0 7 value 0 0 7";
        right(full + ";");
        wrong(full + " value 0 0 7;", 3, full.length() + 7);
        wrong(full + " value 5 0 7;", 2, full.length() + 7);
        wrong(SEVEN + "counts g f e d c b a g", 3, 91);
    }

    static void theText_aWindowNeedsANameAndTakesAllOfThem() {
        right(SEVEN + "window 4 31 4 4 g f e d c b a;");
        right(SEVEN + "window 4 31 4 4 g;");
        wrong(SEVEN + "window 4 31 4 4;", 1, 85);
        wrong(SEVEN + "window 4 31 4 4 g f e d c b a a;", 3, 100);
    }

    static void theText_comparisonsTakeTwoNames() {
        wrong(TWO + "less a;", 1, 26);
        wrong(TWO + "less a b a;", 1, 29);
        wrong(TWO + "differ a;", 1, 28);
        wrong(TWO + "differ a b a;", 1, 31);
        wrong(TWO + "less;", 1, 24);
        wrong(TWO + "differ;", 1, 26);
    }

    // ---- THE TEXT: the ranges of numbers

    static void theText_theFirstNumberOfAVariableIsFrom0To4() {
        for (int from = 0; from < 100; from++) {
            rightOrOutOfRange(from <= 4, "var a " + from + " 4;", 6);
        }
    }

    static void theText_theSecondNumberOfAVariableIsFromTheFirstOneTo4() {
        for (int from = 0; from <= 4; from++) {
            for (int to = 0; to < 100; to++) {
                rightOrOutOfRange(to >= from && to <= 4, "var a " + from + " " + to + ";", 8);
            }
        }
    }

    static void theText_allValuesFromTheFirstNumberToTheSecondOne() {
        for (int from = 0; from <= 4; from++) {
            for (int to = from; to <= 4; to++) {
                int domain = (2 << to) - (1 << from);
                Check.is("domain " + from + " " + to, Check.solver("var a " + from + " " + to + ";").domain(0), domain);
            }
        }
    }

    static void theText_theValueOfACountIsFrom0To4() {
        for (int value = 0; value < 100; value++) {
            rightOrOutOfRange(value <= 4, TWO + "counts a value " + value + " 0 7;", 35);
        }
    }

    static void theText_theLeastNumberOfACountIsFrom0To7() {
        for (int least = 0; least < 100; least++) {
            rightOrOutOfRange(least <= 7, TWO + "counts a value 0 " + least + " 7;", 37);
        }
    }

    static void theText_theGreatestNumberOfACountIsFromTheLeastOneTo7() {
        for (int least = 0; least <= 7; least++) {
            for (int greatest = 0; greatest < 100; greatest++) {
                rightOrOutOfRange(greatest >= least && greatest <= 7,
                        TWO + "counts a value 0 " + least + " " + greatest + ";", 39);
            }
        }
    }

    static void theText_theWidthOfAWindowIsFrom1To4() {
        for (int width = 0; width < 100; width++) {
            rightOrOutOfRange(width >= 1 && width <= 4, TWO + "window " + width + " 1 0 0 a;", 27);
        }
    }

    static void theText_theSetOfAWindowIsFrom1To31() {
        for (int set = 0; set < 100; set++) {
            rightOrOutOfRange(set >= 1 && set <= 31, TWO + "window 1 " + set + " 0 1 a;", 29);
        }
    }

    static void theText_theLeastNumberOfAWindowIsFrom0ToTheWidth() {
        for (int width = 1; width <= 4; width++) {
            for (int least = 0; least < 100; least++) {
                rightOrOutOfRange(least <= width, TWO + "window " + width + " 1 " + least + " " + width + " a;", 31);
            }
        }
    }

    static void theText_theGreatestNumberOfAWindowIsFromTheLeastOneToTheWidth() {
        for (int width = 1; width <= 4; width++) {
            for (int least = 0; least <= width; least++) {
                for (int greatest = 0; greatest < 100; greatest++) {
                    rightOrOutOfRange(greatest >= least && greatest <= width,
                            TWO + "window " + width + " 1 " + least + " " + greatest + " a;", 33);
                }
            }
        }
    }

    // ---- THE TEXT: names

    static void theText_aNameThatAnotherVariableHas() {
        wrong("var a 0 1;var a 0 1;", 3, 14);
        wrong("var a 0 1;var b 0 1;var a 0 1;", 3, 24);
        wrong("var abcdef 0 1;var abcdef", 3, 19);
        right("var abcdef 0 1;var abcdee 0 1;var bcdef 0 1;var abcde 0 1;");
        wrong(SEVEN.substring(0, 60) + "var f 0 1;", 3, 64);
    }

    static void theText_aNameThatNoVariableHas() {
        wrong(TWO + "less c b;", 3, 25);
        wrong(TWO + "less a c;", 3, 27);
        wrong(TWO + "differ c b;", 3, 27);
        wrong(TWO + "differ a c;", 3, 29);
        wrong(TWO + "counts c", 3, 27);
        wrong(TWO + "counts a c", 3, 29);
        wrong(TWO + "window 1 1 0 1 c", 3, 35);
        wrong(TWO + "window 1 1 0 1 a c", 3, 37);
        wrong("counts counts value 0 0 1;", 3, 7);
    }

    static void theText_aNameTwiceInAConstraint() {
        wrong(TWO + "less a a;", 3, 27);
        wrong(TWO + "differ b b;", 3, 29);
        wrong(TWO + "counts a b a", 3, 31);
        wrong(TWO + "window 1 1 0 1 a b b", 3, 39);
        right(TWO + "less a b;less a b;counts a b value 0 0 1;counts a b value 0 0 1;");
    }

    static void theText_aValueTwiceInAConstraint() {
        wrong(TWO + "counts a value 0 0 1 value 0 0 1;", 3, 47);
        wrong(TWO + "counts a value 4 0 1 value 04 0 1;", 3, 47);
        wrong(TWO + "counts a value 4 0 1 value 3 0 1 value 4", 3, 59);
        right(TWO + "counts a value 4 0 1;counts a value 4 0 1;");
    }

    // ---- THE TEXT: too many

    static void theText_theEighthVariable() {
        right(SEVEN);
        wrong(SEVEN + "var", 4, 70);
        wrong(SEVEN + "\n var h 0 1;", 4, 72);
        wrong(SEVEN + "vars", 1, 70);
        wrong(SEVEN + "less a b;var", 1, 79);
    }

    static void theText_theNinthConstraint() {
        String eight = TWO + "less a b;".repeat(8);
        right(eight);
        for (String word : new String[] {"counts", "window", "less", "differ"}) {
            wrong(eight + word, 4, 92);
            wrong(eight + " " + word + " ?", 4, 93);
        }
        for (String other : new String[] {"var", "value", "lesser", "a", ";", "1", "?"}) {
            wrong(eight + other, 1, 92);
        }
    }

    // ---- THE TEXT: which error

    static void theText_theFirstErrorFromTheLeft() {
        wrong("var a 5 5;var a 0 1;?", 2, 6);
        wrong("var a 0 1;var a 5 5;", 3, 14);
        wrong(SEVEN + "var a 5 5;?", 4, 70);
        wrong("? var a 5 5;", 1, 0);
        wrong(TWO + "counts a c value 9 9 9", 3, 29);
        wrong(TWO + "counts a value 9 9 9 c", 2, 35);
        wrong(TWO + "less a b;".repeat(8) + "less c c ?", 4, 92);
        wrong(TWO + "window 5 32 9 9 value", 2, 27);
    }

    static void theText_atOnePositionTheLowestCode() {
        // Too many and at the wrong place; too long and unknown; three digits and out of range.
        wrong(SEVEN + "less a b;var", 1, 79);
        wrong(TWO + "less a b;".repeat(8) + "var", 1, 92);
        wrong(TWO + "less abcdefg b;", 1, 25);
        wrong("var a 999 4;", 1, 6);
        wrong(TWO + "counts a value 0 0 1 value 000 0 1;", 1, 47);
    }
}
