/** The section "Terms" of the document: a script for each sentence that names a limit or a rule for every method. */
public final class TermsEdgeTest {
    private static final ScriptRunner RUNNER = new ScriptRunner();

    // Calls that make an expression out of number 0, whatever else there is.
    private static final String[] MAKERS = {"symbol 0", "number 5", "add 0 0", "subtract 0 0", "multiply 0 0",
        "power 0 2", "derive 0 0", "substitute 0 0 0"};

    // Every place where a call takes an expression, marked ?, and the answer where that one is not good.
    private static final String[][] MAKER_PLACES = {{"add ? 0", "-1"}, {"add 0 ?", "-1"}, {"subtract ? 0", "-1"},
        {"subtract 0 ?", "-1"}, {"multiply ? 0", "-1"}, {"multiply 0 ?", "-1"}, {"power ? 1", "-1"},
        {"derive ? 0", "-1"}, {"substitute ? 0 0", "-1"}, {"substitute 0 0 ?", "-1"}};

    // The same for the questions, with the answer where ? and 0 are both the number 9.
    private static final String[][] QUESTION_PLACES = {{"same ? 0", "-1", "1"}, {"same 0 ?", "-1", "1"},
        {"degree ?", "-2", "0"}, {"degreeIn ? 0", "-2", "0"}, {"coefficient ? 0", "-1", "9"}, {"terms ?", "-1", "1"},
        {"term ? 0", "-1", "0"}, {"value ? 1 1 1", "-1", "9"}};

    private static final String FIVE = """
        symbol 0 = 0; symbol 1 = 1; add 0 1 = 2; power 2 6 = 3; number 0 = 4     # a, b, a + b, (a + b)^6, 0
        """;

    private static void symbols() {
        RUNNER.run("Terms: symbols a, b and c, numbered 0, 1, 2", """
            symbol 0 = 0; symbol 1 = 1; symbol 2 = 2
            poly 0 = 1@49
            poly 1 = 1@7
            poly 2 = 1@1
            """);
        RUNNER.run("Terms: a symbol is good if it is 0 .. 2, in symbol", """
            symbol -1 = -1; symbol 0 = 0; symbol 2 = 1; symbol 3 = -1
            """);
        RUNNER.run("Terms: a symbol is good if it is 0 .. 2, in derive", """
            number 9 = 0; derive 0 -1 = -4; derive 0 0 = 1; derive 0 2 = 2; derive 0 3 = -4
            """);
        RUNNER.run("Terms: a symbol is good if it is 0 .. 2, in substitute", """
            number 9 = 0; substitute 0 -1 0 = -4; substitute 0 0 0 = 1; substitute 0 2 0 = 2; substitute 0 3 0 = -4
            """);
        RUNNER.run("Terms: a symbol is good if it is 0 .. 2, in degreeIn", """
            number 9 = 0; degreeIn 0 -1 = -3; degreeIn 0 0 = 0; degreeIn 0 2 = 0; degreeIn 0 3 = -3
            """);
    }

    private static void coefficients() {
        String great = "symbol 0 = 0; number 10006 = 1; multiply 0 1 = 2\n";      // a, 10006, 10006 a
        RUNNER.run("Terms: coefficients modulo 10007, add", great + """
            add 2 0 = 3; add 2 2 = 4
            poly 3 = 0
            poly 4 = 10005@49
            """);
        RUNNER.run("Terms: coefficients modulo 10007, subtract", great + """
            subtract 0 0 = 3; subtract 3 0 = 4; subtract 0 2 = 5; subtract 3 2 = 6
            poly 4 = 10006@49
            poly 5 = 2@49
            poly 6 = 1@49
            """);
        RUNNER.run("Terms: coefficients modulo 10007, multiply", great + """
            multiply 2 2 = 3; add 2 1 = 4; multiply 4 4 = 5
            poly 3 = 1@98
            poly 5 = 1@98 2@49 1@0
            number 5003 = 6; number 2 = 7; multiply 6 7 = 8; number 5004 = 9; multiply 9 7 = 10
            poly 8 = 10006@0
            poly 10 = 1@0
            """);
        RUNNER.run("Terms: coefficients modulo 10007, power", great + """
            power 2 2 = 3; power 2 3 = 4
            poly 3 = 1@98
            poly 4 = 10006@147
            """);
        RUNNER.run("Terms: coefficients modulo 10007, derive", great + """
            multiply 2 0 = 3; derive 3 0 = 4
            poly 4 = 10005@49
            number 5004 = 5; multiply 0 0 = 6; multiply 5 6 = 7; derive 7 0 = 8      # 2 * 5004 is 10008
            poly 8 = 1@49
            """);
        RUNNER.run("Terms: coefficients modulo 10007, substitute", great + """
            substitute 2 0 1 = 3; substitute 2 0 2 = 4; add 2 1 = 5; substitute 5 0 2 = 6
            poly 3 = 1@0
            poly 4 = 1@49
            poly 6 = 1@49 10006@0
            """);
    }

    private static void exponents() {
        for (int symbol = 0; symbol <= 2; symbol++) {
            int step = new int[] {49, 7, 1}[symbol];
            RUNNER.run("Terms: exponents 0 .. 6, symbol " + symbol, """
                symbol %1$d = 0; power 0 6 = 1; power 0 0 = 2; add 1 2 = 3; multiply 1 0 = -3
                poly 3 = 1@%2$d 1@0
                """.formatted(symbol, 6 * step));
        }
        RUNNER.run("Terms: an exponent triple is 49 * p + 7 * q + r, 0 .. 342", """
            symbol 0 = 0; symbol 1 = 1; symbol 2 = 2; power 1 2 = 3; power 2 3 = 4; multiply 0 3 = 5
            multiply 5 4 = 6                                                    # a b^2 c^3
            coefficient 6 66 = 1; term 6 0 = 66
            coefficient 6 162 = 0                                               # a^3 b^2 c
            coefficient 6 0 = 0; coefficient 6 342 = 0; coefficient 6 -1 = -2; coefficient 6 343 = -2
            """);
    }

    private static void samePolynomials() {
        RUNNER.run("Terms: the same if they have the same coefficient for every triple", """
            symbol 0 = 0; power 0 6 = 1; symbol 1 = 2; add 1 2 = 3; number 1 = 4; add 3 4 = 5    # a^6 + b + 1
            subtract 5 1 = 6; same 5 6 = 0; same 6 5 = 0                        # without a^6
            subtract 5 2 = 7; same 5 7 = 0; same 7 5 = 0                        # without b
            subtract 5 4 = 8; same 5 8 = 0; same 8 5 = 0                        # without 1
            add 5 2 = 9; same 5 9 = 0; same 9 5 = 0                             # 2 b in place of b
            add 8 4 = 10; same 5 10 = 1; same 10 5 = 1
            """);
    }

    private static void degrees() {
        RUNNER.run("Terms: the degree is the greatest p + q + r", """
            symbol 0 = 0; symbol 1 = 1; symbol 2 = 2; power 2 6 = 3; add 0 3 = 4; degree 4 = 6
            multiply 0 1 = 5; multiply 5 2 = 6; power 6 2 = 7; degree 7 = 6; add 7 6 = 8; degree 8 = 6
            """);
        RUNNER.run("Terms: the degree, of a term with a coefficient not 0", """
            symbol 0 = 0; symbol 2 = 1; power 0 6 = 2; add 2 1 = 3; subtract 3 2 = 4; degree 4 = 1
            multiply 4 2 = -3; power 4 6 = 5; degree 5 = 6
            """);
        RUNNER.run("Terms: the degree -1 for the polynomial 0, however it is made", """
            number 0 = 0; number 10007 = 1; number -10007 = 2; symbol 0 = 3; subtract 3 3 = 4; number -1 = 5
            multiply 3 5 = 6; add 3 6 = 7; multiply 3 0 = 8; power 0 6 = 9; derive 5 0 = 10; substitute 3 0 0 = 11
            degree 0 = -1; degree 1 = -1; degree 2 = -1; degree 4 = -1; degree 7 = -1; degree 8 = -1; degree 9 = -1
            degree 10 = -1; degree 11 = -1; power 0 0 = 12; degree 12 = 0
            """);
    }

    private static void numbering() {
        RUNNER.run("Terms: expressions are numbered 0, 1, 2, .. in the order in which they are made", """
            symbol 2 = 0; number 7 = 1; add 0 1 = 2; subtract 2 0 = 3; multiply 2 2 = 4; power 2 3 = 5
            derive 4 2 = 6; substitute 4 2 1 = 7
            poly 0 = 1@1
            poly 1 = 7@0
            poly 2 = 1@1 7@0
            poly 3 = 7@0
            poly 4 = 1@2 14@1 49@0
            poly 5 = 1@3 21@2 147@1 343@0
            poly 6 = 2@1 14@0
            poly 7 = 196@0
            """);
        for (String maker : MAKERS) {
            RUNNER.run("Terms: operations that make an expression answer its number, " + maker,
                "number 3 = 0; " + maker + " = 1; " + maker + " = 2; power 0 7 = -4; " + maker + " = 3; clear = 4\n"
                + "number 3 = 0; " + maker + " = 1");
        }
    }

    private static void atMostSixteen() {
        for (String maker : MAKERS) {
            RUNNER.run("Terms: at most 16 expressions, " + maker, "fill 15; " + maker + " = 15; expressions = 16; "
                + maker + " = -2; expressions = 16; " + maker + " = -2");
        }
        RUNNER.run("Terms: at most 16 expressions, and then all can be cleared", """
            fill 16; number 1 = -2; clear = 16; expressions = 0
            fill 16; number 1 = -2; clear = 16; symbol 2 = 0
            poly 0 = 1@1
            """);
    }

    private static void degreeAtMostSix() {
        String powersOfB = "symbol 1 = 0; power 0 2 = 1; power 0 3 = 2; power 0 4 = 3; power 0 6 = 4\n";
        RUNNER.run("Terms: a degree of 6 but no greater one, multiply", powersOfB + """
            multiply 2 2 = 5; multiply 2 3 = -3
            poly 5 = 1@42
            """);
        RUNNER.run("Terms: a degree of 6 but no greater one, power", powersOfB + """
            power 1 3 = 5; power 1 4 = -3; power 3 2 = -3
            poly 5 = 1@42
            """);
        RUNNER.run("Terms: a degree of 6 but no greater one, substitute", powersOfB + """
            symbol 0 = 5; multiply 5 2 = 6                                      # a b^3
            substitute 6 0 2 = 7; substitute 6 0 3 = -3
            poly 7 = 1@42
            """);
        RUNNER.run("Terms: a degree of 6 is no reason to refuse a sum, a difference or a derivative", powersOfB + """
            add 4 4 = 5; subtract 5 4 = 6; derive 4 1 = 7; multiply 5 0 = -3
            poly 5 = 2@42
            poly 6 = 1@42
            poly 7 = 6@35
            """);
    }

    // That nothing has changed is looked at by the runner, after each question and each refused call.
    private static void questionsChangeNothing() {
        RUNNER.run("Terms: no question changes anything, no expressions", """
            expressions = 0; kinds = 0; same X! X! = -1; degree X! = -2; degreeIn X! 0 = -2; coefficient X! 0 = -1
            terms X! = -1; term X! 0 = -1; value X! 1 1 1 = -1
            """);
        String questions = """
            same 0 1 = 0; same 1 1 = 1; same 0 X! = -1; same X! 0 = -1
            degree 3 = 6; degree 4 = -1; degree X! = -2
            degreeIn 3 0 = 6; degreeIn 4 0 = -1; degreeIn 3 S! = -3; degreeIn X! 0 = -2
            coefficient 3 294 = 1; coefficient 3 0 = 0; coefficient 3 342 = 0; coefficient 3 T! = -2
            coefficient X! 0 = -1
            terms 3 = 7; terms 4 = 0; terms X! = -1
            term 3 0 = 294; term 3 6 = 42; term 3 7 = -2; term 3 -1 = -2; term 4 0 = -2; term X! 0 = -1
            value 3 1 1 1 = 64; value 3 MIN MAX -1 = 1; value 4 1 1 1 = 0; value X! 1 1 1 = -1
            """;
        RUNNER.run("Terms: no question changes anything, some expressions",
            FIVE + "expressions = 5; kinds = 5\n" + questions);
        RUNNER.run("Terms: no question changes anything, 16 expressions",
            FIVE + "fill 16\nexpressions = 16; kinds = 6\n" + questions);
    }

    private static void refusedCallsChangeNothing() {
        String polynomials = """
            poly 0 = 1@49
            poly 1 = 1@7
            poly 2 = 1@49 1@7
            poly 3 = 1@294 6@252 15@210 20@168 15@126 6@84 1@42
            poly 4 = 0
            """;
        RUNNER.run("Terms: a refused call changes nothing, no expressions", """
            symbol S! = -1; add X! X! = -1; subtract X! X! = -1; multiply X! X! = -1; power X! 0 = -1
            derive X! 0 = -1; substitute X! 0 X! = -1; expressions = 0; kinds = 0; number 1 = 0
            """);
        RUNNER.run("Terms: a refused call changes nothing, some expressions", FIVE + """
            symbol S! = -1; add X! 3 = -1; add 3 X! = -1; subtract X! 3 = -1; subtract 3 X! = -1
            multiply X! 3 = -1; multiply 3 X! = -1; multiply 3 0 = -3; multiply 3 3 = -3
            power X! 0 = -1; power 3 N! = -4; power 3 2 = -3; power 3 6 = -3
            derive X! 0 = -1; derive 3 S! = -4
            substitute X! 0 3 = -1; substitute 3 0 X! = -1; substitute 3 S! 3 = -4; substitute 3 0 3 = -3
            expressions = 5; kinds = 5; number 1 = 5
            """ + polynomials);
        RUNNER.run("Terms: a refused call changes nothing, 16 expressions", FIVE + "fill 16\n" + """
            symbol 0 = -2; symbol S! = -1; number 5 = -2; add 3 0 = -2; add 3 X! = -1; subtract 3 0 = -2
            subtract 3 X! = -1; multiply 1 2 = -2; multiply 3 3 = -2; multiply X! 0 = -1
            power 2 6 = -2; power 3 2 = -2; power 3 N! = -2; power X! 0 = -1; derive 3 0 = -2; derive 3 S! = -2
            derive X! 0 = -1; substitute 2 0 3 = -2; substitute 3 0 3 = -2; substitute 3 S! 3 = -2
            substitute X! 0 0 = -1; expressions = 16; kinds = 6
            poly 15 = 9@0
            """ + polynomials);
    }

    private static void orderOfTests() {
        String some = "symbol 0 = 0; power 0 6 = 1\n";
        String full = some + "fill 16\n";
        RUNNER.run("Terms: order in symbol, -1 before -2", full + "symbol S! = -1; symbol 2 = -2");
        RUNNER.run("Terms: order in add, -1 before -2", full + "add X! 1 = -1; add 1 X! = -1; add 1 1 = -2");
        RUNNER.run("Terms: order in subtract, -1 before -2",
            full + "subtract X! 1 = -1; subtract 1 X! = -1; subtract 1 1 = -2");
        RUNNER.run("Terms: order in multiply, -1 before -2", full + "multiply X! 0 = -1; multiply 0 X! = -1");
        RUNNER.run("Terms: order in multiply, -2 before -3", some + "multiply 1 0 = -3; fill 16; multiply 1 0 = -2");
        RUNNER.run("Terms: order in power, -1 before -2", full + "power X! 1 = -1; power 0 1 = -2");
        RUNNER.run("Terms: order in power, -1 before -4", some + "power X! N! = -1");
        RUNNER.run("Terms: order in power, -1 before -2 and -4", full + "power X! N! = -1");
        RUNNER.run("Terms: order in power, -2 before -4", full + "power 0 N! = -2");
        RUNNER.run("Terms: order in power, -2 before -3", some + "power 1 2 = -3; fill 16; power 1 2 = -2");
        RUNNER.run("Terms: order in power, -2 before -4 and -3", full + "power 1 7 = -2; power 1 MAX = -2");
        RUNNER.run("Terms: order in power, -4 before -3", some + "power 1 7 = -4; power 1 MAX = -4; power 1 6 = -3");
        RUNNER.run("Terms: order in derive, -1 before -2", full + "derive X! 0 = -1; derive 0 0 = -2");
        RUNNER.run("Terms: order in derive, -1 before -4", some + "derive X! S! = -1");
        RUNNER.run("Terms: order in derive, -1 before -2 and -4", full + "derive X! S! = -1");
        RUNNER.run("Terms: order in derive, -2 before -4", full + "derive 0 S! = -2");
        orderInSubstitute(some, full);
        orderInQuestions(some, full);
    }

    private static void orderInSubstitute(String some, String full) {
        RUNNER.run("Terms: order in substitute, -1 before -2",
            full + "substitute X! 0 0 = -1; substitute 0 0 X! = -1; substitute X! 0 X! = -1");
        RUNNER.run("Terms: order in substitute, -1 before -4",
            some + "substitute X! S! 0 = -1; substitute 0 S! X! = -1");
        RUNNER.run("Terms: order in substitute, -1 before -2 and -4",
            full + "substitute X! S! 0 = -1; substitute 0 S! X! = -1");
        RUNNER.run("Terms: order in substitute, -2 before -4", full + "substitute 0 S! 0 = -2");
        RUNNER.run("Terms: order in substitute, -2 before -3",
            some + "substitute 1 0 1 = -3; fill 16; substitute 1 0 1 = -2");
        RUNNER.run("Terms: order in substitute, -2 before -4 and -3", full + "substitute 1 S! 1 = -2");
        // a^2 b^2 c^2 is too high by each symbol, so whichever a wrong one might be taken for
        RUNNER.run("Terms: order in substitute, -4 before -3", """
            symbol 0 = 0; symbol 1 = 1; symbol 2 = 2; multiply 0 1 = 3; multiply 3 2 = 4; power 4 2 = 5
            substitute 5 0 5 = -3; substitute 5 1 5 = -3; substitute 5 2 5 = -3; substitute 5 S! 5 = -4
            """);
    }

    private static void orderInQuestions(String some, String full) {
        RUNNER.run("Terms: order in degreeIn, -2 before -3", some + "degreeIn X! S! = -2; degreeIn 0 S! = -3");
        RUNNER.run("Terms: order in coefficient, -1 before -2",
            some + "coefficient X! T! = -1; coefficient 0 T! = -2");
        RUNNER.run("Terms: order in term, -1 before -2",
            some + "term X! -1 = -1; term X! 1 = -1; term X! MIN = -1; term X! MAX = -1; term 0 1 = -2");
        RUNNER.run("Terms: that there are 16 expressions is no reason to refuse a question", full + """
            same 0 1 = 0; same X! 0 = -1; degree 1 = 6; degree X! = -2; degreeIn 1 0 = 6; degreeIn X! S! = -2
            degreeIn 1 S! = -3; coefficient 1 294 = 1; coefficient X! T! = -1; coefficient 1 T! = -2; terms 1 = 1
            terms X! = -1; term 1 0 = 294; term X! 1 = -1; term 1 1 = -2; value 1 2 0 0 = 64; value X! 0 0 0 = -1
            expressions = 16; kinds = 3
            """);
    }

    private static void goodExpressions() {
        for (String[] place : MAKER_PLACES) {
            goodExpression(place[0], place[1], "1", "-2");
        }
        for (String[] place : QUESTION_PLACES) {
            goodExpression(place[0], place[1], place[2], place[2]);
        }
    }

    private static void goodExpression(String call, String refused, String withOne, String withSixteen) {
        String title = "Terms: an expression is good if there is such an expression, " + call + ", ";
        String notGood = call.replace("?", "X!") + " = " + refused + "\n";
        String onlyZeroIsGood = notGood + call.replace("?", "1") + " = " + refused + "\n"
            + call.replace("?", "15") + " = " + refused + "\n" + call.replace("?", "0") + " = " + withOne;
        RUNNER.run(title + "none", notGood + call.replace("?", "0") + " = " + refused);
        RUNNER.run(title + "one", "number 9 = 0\n" + onlyZeroIsGood);
        RUNNER.run(title + "16", "fill 16\n" + notGood + call.replace("?", "0") + " = " + withSixteen + "\n"
            + call.replace("?", "15") + " = " + withSixteen);
        RUNNER.run(title + "after a refused call", "number 9 = 0; power 0 7 = -4; add 0 1 = -1\n" + onlyZeroIsGood);
        RUNNER.run(title + "after clear", "fill 16; clear = 16\n" + notGood + call.replace("?", "0") + " = " + refused
            + "\nnumber 9 = 0\n" + onlyZeroIsGood);
    }

    public static void main(String[] args) {
        symbols();
        coefficients();
        exponents();
        samePolynomials();
        degrees();
        numbering();
        atMostSixteen();
        degreeAtMostSix();
        questionsChangeNothing();
        refusedCallsChangeNothing();
        orderOfTests();
        goodExpressions();
        RUNNER.finish();
    }
}
