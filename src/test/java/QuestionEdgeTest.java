/** Promises 11 to 19, the questions: a script for each sentence that names an edge. */
public final class QuestionEdgeTest {
    private static final ScriptRunner RUNNER = new ScriptRunner();
    private static final int[] STEPS = {49, 7, 1};

    private static void expressions() {
        for (int made = 0; made <= 16; made++) {
            RUNNER.run("Promise 11: how many expressions there are, " + made,
                "fill " + made + "; expressions = " + made + "; clear = " + made + "; expressions = 0");
        }
        RUNNER.run("Promise 11: a refused call makes no expression", """
            symbol 3 = -1; expressions = 0; symbol 0 = 0; power 0 7 = -4; expressions = 1; power 0 4 = 1
            multiply 1 1 = -3; expressions = 2; fill 16; number 1 = -2; expressions = 16
            """);
        RUNNER.run("Promise 11: the same polynomial twice is two expressions", """
            number 0 = 0; number 0 = 1; expressions = 2; subtract 0 1 = 2; expressions = 3
            """);
    }

    private static void same() {
        RUNNER.run("Promise 12: same, -1 if x or y is not good", """
            same 0 0 = -1; number 1 = 0; same 0 -1 = -1; same -1 0 = -1; same 0 1 = -1; same 1 0 = -1; same 1 1 = -1
            same X! 0 = -1; same 0 X! = -1; same X! X! = -1; same 0 0 = 1
            """);
        RUNNER.run("Promise 12: same, the polynomial 0", """
            number 0 = 0; number 10007 = 1; symbol 0 = 2; subtract 2 2 = 3; derive 1 0 = 4; number 1 = 5
            power 2 6 = 6
            same 0 1 = 1; same 0 3 = 1; same 3 4 = 1; same 0 0 = 1; same 0 5 = 0; same 5 0 = 0; same 0 6 = 0
            same 6 0 = 0; same 2 0 = 0
            """);
        RUNNER.run("Promise 12: same, a number modulo 10007", """
            number -1 = 0; number 10006 = 1; number 1 = 2; number 10008 = 3; number MIN = 4; number 8545 = 5
            same 0 1 = 1; same 2 3 = 1; same 4 5 = 1; same 0 2 = 0; same 1 3 = 0; same 4 0 = 0
            """);
        RUNNER.run("Promise 12: same, a difference in one coefficient alone", """
            symbol 0 = 0; symbol 2 = 1; power 0 6 = 2; add 2 1 = 3; number 1 = 4; add 3 4 = 5         # a^6 + c + 1
            add 5 4 = 6; add 5 1 = 7; add 5 2 = 8; same 5 6 = 0; same 5 7 = 0; same 5 8 = 0; same 6 7 = 0
            same 7 8 = 0
            subtract 8 2 = 9; same 5 9 = 1; same 9 5 = 1
            """);
        RUNNER.run("Promise 12: same, symbols that change places", """
            symbol 0 = 0; symbol 1 = 1; symbol 2 = 2; same 0 1 = 0; same 1 2 = 0; same 2 0 = 0
            multiply 0 1 = 3; multiply 1 0 = 4; same 3 4 = 1; multiply 1 2 = 5; same 4 5 = 0
            """);
    }

    private static void degree() {
        RUNNER.run("Promise 13: degree, -2 if x is not good", """
            degree 0 = -2; number 0 = 0; degree -1 = -2; degree 0 = -1; degree 1 = -2; degree X! = -2
            """);
        for (int symbol = 0; symbol <= 2; symbol++) {
            for (int d = 0; d <= 6; d++) {
                RUNNER.run("Promise 13: degree " + d + " by symbol " + symbol,
                    "symbol %d = 0; power 0 %d = 1; degree 1 = %2$d".formatted(symbol, d));
            }
        }
        RUNNER.run("Promise 13: degree -1 for the polynomial 0, 0 for a number", """
            number 0 = 0; number 1 = 1; number 10006 = 2; number 10007 = 3; degree 0 = -1; degree 1 = 0; degree 2 = 0
            degree 3 = -1; subtract 1 1 = 4; degree 4 = -1
            """);
        RUNNER.run("Promise 13: degree, the greatest sum of exponents, not the greatest triple", """
            symbol 0 = 0; symbol 1 = 1; symbol 2 = 2; power 2 2 = 3; add 0 3 = 4; multiply 1 3 = 5; add 0 5 = 6
            degree 4 = 2; degree 6 = 3; subtract 6 5 = 7; degree 7 = 1
            """);
    }

    private static void degreeIn() {
        RUNNER.run("Promise 14: degreeIn, -2 if x is not good", """
            degreeIn 0 0 = -2; number 5 = 0; degreeIn -1 0 = -2; degreeIn 1 0 = -2; degreeIn X! 0 = -2
            degreeIn X! 2 = -2; degreeIn 0 0 = 0
            """);
        RUNNER.run("Promise 14: degreeIn, -3 if symbol is not good", """
            number 0 = 0; symbol 2 = 1; degreeIn 0 -1 = -3; degreeIn 0 3 = -3; degreeIn 1 -1 = -3; degreeIn 1 3 = -3
            degreeIn 0 S! = -3; degreeIn 1 S! = -3; degreeIn 1 0 = 0; degreeIn 1 2 = 1
            """);
        RUNNER.run("Promise 14: degreeIn, -1 for the polynomial 0, 0 for a number", """
            number 0 = 0; symbol 0 = 1; subtract 1 1 = 2; number 1 = 3; degreeIn 0 0 = -1; degreeIn 0 1 = -1
            degreeIn 0 2 = -1; degreeIn 2 0 = -1; degreeIn 2 1 = -1; degreeIn 2 2 = -1; degreeIn 3 0 = 0
            degreeIn 3 1 = 0; degreeIn 3 2 = 0
            """);
        for (int symbol = 0; symbol <= 2; symbol++) {
            for (int e = 0; e <= 6; e++) {
                RUNNER.run("Promise 14: degreeIn " + e + " by symbol " + symbol, """
                    symbol %1$d = 0; symbol %3$d = 1; power 0 %2$d = 2; power 1 %5$d = 3; multiply 2 3 = 4
                    degreeIn 4 %1$d = %2$d; degreeIn 4 %3$d = %5$d; degreeIn 4 %4$d = 0
                    """.formatted(symbol, e, (symbol + 1) % 3, (symbol + 2) % 3, 6 - e));
            }
        }
        RUNNER.run("Promise 14: degreeIn, a term with the coefficient 0 is none", """
            symbol 0 = 0; symbol 1 = 1; power 0 6 = 2; add 2 1 = 3; subtract 3 2 = 4; degreeIn 3 0 = 6
            degreeIn 4 0 = 0
            degreeIn 4 1 = 1
            """);
    }

    private static void coefficient() {
        RUNNER.run("Promise 15: coefficient, -1 if x is not good", """
            coefficient 0 0 = -1; number 5 = 0; coefficient -1 0 = -1; coefficient 1 0 = -1; coefficient X! 0 = -1
            coefficient X! 342 = -1; coefficient 0 0 = 5
            """);
        RUNNER.run("Promise 15: coefficient, -2 if triple is not in 0 .. 342", """
            number 5 = 0; coefficient 0 -1 = -2; coefficient 0 0 = 5; coefficient 0 342 = 0; coefficient 0 343 = -2
            coefficient 0 T! = -2; fill 16; coefficient 15 -1 = -2; coefficient 15 0 = 9; coefficient 15 342 = 0
            coefficient 15 343 = -2; coefficient 15 T! = -2; coefficient 0 343 = -2; coefficient 1 -1 = -2
            """);
        RUNNER.run("Promise 15: coefficient, 0 where there is no term", """
            number 0 = 0; coefficient 0 0 = 0; coefficient 0 342 = 0; symbol 1 = 1; coefficient 1 6 = 0
            coefficient 1 7 = 1; coefficient 1 8 = 0; coefficient 1 0 = 0; coefficient 1 342 = 0
            coefficient 1 T! = -2
            """);
        RUNNER.run("Promise 15: coefficient, never below 0", """
            number -1 = 0; symbol 0 = 1; multiply 0 1 = 2; subtract 0 1 = 3; coefficient 0 0 = 10006
            coefficient 2 49 = 10006; coefficient 3 49 = 10006; coefficient 3 0 = 10006
            """);
        for (int symbol = 0; symbol <= 2; symbol++) {
            int triple = 6 * STEPS[symbol];
            RUNNER.run("Promise 15: coefficient, exponent 6 of symbol " + symbol, """
                symbol %d = 0; power 0 6 = 1; coefficient 1 %d = 1; coefficient 1 %d = 0; coefficient 1 %d = 0
                """.formatted(symbol, triple, triple - 1, triple + 1));
        }
    }

    // (a + b + c + 1)^6, which has every term of a degree of at most 6
    private static final String ALL_TERMS = """
        symbol 0 = 0; symbol 1 = 1; symbol 2 = 2; number 1 = 3; add 0 1 = 4; add 2 3 = 5; add 4 5 = 6; power 6 6 = 7
        """;

    private static void terms() {
        RUNNER.run("Promise 16: terms, -1 if x is not good", """
            terms 0 = -1; number 5 = 0; terms -1 = -1; terms 1 = -1; terms X! = -1; terms 0 = 1
            """);
        RUNNER.run("Promise 16: terms, none in the polynomial 0", """
            number 0 = 0; number 10007 = 1; symbol 0 = 2; subtract 2 2 = 3; terms 0 = 0; terms 1 = 0; terms 3 = 0
            """);
        RUNNER.run("Promise 16: terms, one at each end of the triples", """
            number 1 = 0; symbol 0 = 1; power 1 6 = 2; add 0 2 = 3; terms 0 = 1; terms 2 = 1; terms 3 = 2
            """);
        RUNNER.run("Promise 16: terms, a term that cancels is none", """
            symbol 0 = 0; symbol 1 = 1; add 0 1 = 2; subtract 0 1 = 3; multiply 2 3 = 4; add 2 3 = 5
            terms 4 = 2; terms 5 = 1
            """);
        RUNNER.run("Promise 16: terms, as many as there can be",
            ALL_TERMS + "terms 7 = 84; derive 7 0 = 8; terms 8 = 56");
    }

    private static void term() {
        RUNNER.run("Promise 17: term, -1 if x is not good", """
            term 0 0 = -1; number 5 = 0; term -1 0 = -1; term 1 0 = -1; term X! 0 = -1; term 0 0 = 0
            """);
        RUNNER.run("Promise 17: term, -2 if there is no such term", """
            symbol 0 = 0; number 5 = 1; add 0 1 = 2; term 2 -1 = -2; term 2 0 = 49; term 2 1 = 0; term 2 2 = -2
            term 2 3 = -2; term 2 49 = -2; term 2 342 = -2; term 2 343 = -2; term 2 MIN = -2; term 2 MAX = -2
            """);
        RUNNER.run("Promise 17: term, -2 for the polynomial 0", """
            number 0 = 0; symbol 0 = 1; subtract 1 1 = 2; term 0 -1 = -2; term 0 0 = -2; term 0 1 = -2; term 2 0 = -2
            term 0 MIN = -2; term 0 MAX = -2
            """);
        RUNNER.run("Promise 17: term, falling order, 0 for the greatest triple and not the greatest degree", """
            symbol 0 = 0; symbol 2 = 1; power 1 6 = 2; add 2 0 = 3; number 1 = 4; add 4 3 = 5; symbol 1 = 6
            add 6 5 = 7
            term 7 0 = 49; term 7 1 = 7; term 7 2 = 6; term 7 3 = 0; term 7 4 = -2
            """);
        RUNNER.run("Promise 17: term, as many terms as there can be", ALL_TERMS + """
            term 7 0 = 294; term 7 1 = 252; term 7 2 = 246; term 7 3 = 245; term 7 82 = 1; term 7 83 = 0
            term 7 84 = -2
            term 7 85 = -2; term 7 -1 = -2
            """);
        RUNNER.run("Promise 17: term, a term that cancels is none", """
            symbol 0 = 0; symbol 1 = 1; symbol 2 = 2; add 0 1 = 3; add 3 2 = 4; subtract 4 1 = 5; term 5 0 = 49
            term 5 1 = 1; term 5 2 = -2
            """);
    }

    private static void value() {
        RUNNER.run("Promise 18: value, -1 if x is not good", """
            value 0 0 0 0 = -1; number 5 = 0; value -1 0 0 0 = -1; value 1 0 0 0 = -1; value X! 1 2 3 = -1
            value X! MIN MAX -1 = -1; value 0 0 0 0 = 5
            """);
        int[][] residues = {{0, 0}, {1, 1}, {10006, 10006}, {10007, 0}, {10008, 1}, {-1, 10006}, {-10006, 1},
            {-10007, 0}, {-10008, 10006}, {Integer.MIN_VALUE, 8545}, {Integer.MIN_VALUE + 1, 8546},
            {Integer.MIN_VALUE + 1462, 0}, {Integer.MAX_VALUE, 1461}, {Integer.MAX_VALUE - 1461, 0}};
        for (int[] pair : residues) {
            RUNNER.run("Promise 18: value, ints taken modulo 10007, " + pair[0], """
                symbol 0 = 0; symbol 1 = 1; symbol 2 = 2
                value 0 %1$d 5 7 = %2$d; value 1 3 %1$d 7 = %2$d; value 2 3 5 %1$d = %2$d
                value 0 3 %1$d %1$d = 3; value 1 %1$d 5 %1$d = 5; value 2 %1$d %1$d 7 = 7
                """.formatted(pair[0], pair[1]));
        }
        RUNNER.run("Promise 18: value modulo 10007, never negative", """
            number -1 = 0; symbol 0 = 1; multiply 0 1 = 2; add 2 0 = 3; value 0 1 1 1 = 10006; value 2 1 0 0 = 10006
            value 2 -1 0 0 = 1; value 3 1 0 0 = 10005; value 3 10006 0 0 = 0; value 3 MIN 0 0 = 1461; power 1 6 = 4
            value 4 10006 0 0 = 1; power 1 5 = 5; value 5 10006 0 0 = 10006
            value 5 5004 0 0 = 7818     # 32 * 7818 is 1
            """);
        RUNNER.run("Promise 18: value of the polynomial 0", """
            number 0 = 0; value 0 0 0 0 = 0; value 0 1 2 3 = 0; value 0 MIN MAX -1 = 0
            """);
        RUNNER.run("Promise 18: value where a symbol has the value 0", """
            symbol 0 = 0; symbol 1 = 1; symbol 2 = 2; number 8 = 3; add 0 1 = 4; add 4 2 = 5; add 5 3 = 6
            value 3 0 0 0 = 8; value 6 0 0 0 = 8; value 6 1 0 0 = 9; value 6 0 2 0 = 10; value 6 0 0 3 = 11
            value 6 10007 -10007 20014 = 8
            """);
        RUNNER.run("Promise 18: value of as many terms as there can be", ALL_TERMS + """
            value 7 0 0 0 = 1; value 7 1 1 1 = 4096; value 7 -1 0 0 = 0; value 7 10006 10006 10006 = 64
            value 7 MIN MAX 0 = 0; value 7 MIN MAX 2 = 64
            """);
    }

    private static void kinds() {
        RUNNER.run("Promise 19: kinds, none at first and none after clear", """
            kinds = 0; number 1 = 0; number 2 = 1; kinds = 2; clear = 2; kinds = 0; number 1 = 0; kinds = 1
            """);
        RUNNER.run("Promise 19: kinds, 16 expressions of one kind", "fill 15; kinds = 1; fill 16; kinds = 1");
        RUNNER.run("Promise 19: kinds, 16 different ones", """
            number 0 = 0; number 1 = 1; number -1 = 2; symbol 0 = 3; symbol 1 = 4; symbol 2 = 5
            power 3 2 = 6; power 3 3 = 7
            power 3 4 = 8; power 3 5 = 9; power 3 6 = 10; power 5 6 = 11; add 3 4 = 12; subtract 3 4 = 13
            subtract 4 3 = 14; kinds = 15; add 10 11 = 15; kinds = 16
            """);
        RUNNER.run("Promise 19: kinds, the last the same as the first", """
            symbol 0 = 0; number 1 = 1; number 2 = 2; symbol 0 = 3; kinds = 3; number 2 = 4; number 1 = 5; kinds = 3
            """);
        RUNNER.run("Promise 19: kinds, the polynomial 0 is one", """
            number 0 = 0; kinds = 1; number 10007 = 1; kinds = 1; symbol 0 = 2; kinds = 2; subtract 2 2 = 3; kinds = 2
            """);
        RUNNER.run("Promise 19: kinds, differences in one coefficient alone", """
            symbol 0 = 0; power 0 6 = 1; kinds = 2; number 1 = 2; kinds = 3; add 1 2 = 3; kinds = 4
            add 3 2 = 4; kinds = 5
            add 3 1 = 5; kinds = 6; subtract 5 1 = 6; kinds = 6; subtract 4 2 = 7; kinds = 6
            """);
        RUNNER.run("Promise 19: kinds, a refused call adds none", """
            symbol 0 = 0; symbol 3 = -1; power 0 7 = -4; kinds = 1; fill 16; kinds = 2; symbol 1 = -2; kinds = 2
            """);
    }

    public static void main(String[] args) {
        expressions();
        same();
        degree();
        degreeIn();
        coefficient();
        terms();
        term();
        value();
        kinds();
        RUNNER.finish();
    }
}
