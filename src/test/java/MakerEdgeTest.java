/** Promises 1 to 10 and 20, the calls that make and clear: a script for each sentence that names an edge. */
public final class MakerEdgeTest {
    private static final ScriptRunner RUNNER = new ScriptRunner();
    private static final int[] STEPS = {49, 7, 1};

    private static void newObject() {
        RUNNER.run("Promise 1: no expressions at first, as the questions see it", """
            expressions = 0; kinds = 0; same 0 0 = -1; degree 0 = -2; degreeIn 0 0 = -2; coefficient 0 0 = -1
            terms 0 = -1; term 0 0 = -1; value 0 0 0 0 = -1
            """);
        RUNNER.run("Promise 1: no expressions at first, as the operations see it", """
            add 0 0 = -1; subtract 0 0 = -1; multiply 0 0 = -1; power 0 0 = -1; derive 0 0 = -1
            substitute 0 0 0 = -1; clear = 0
            """);
        RUNNER.run("Promise 1: no expressions at first, a symbol gets number 0", "symbol 2 = 0");
        RUNNER.run("Promise 1: no expressions at first, a number gets number 0", "number 8 = 0");
    }

    private static void clear() {
        for (int made = 0; made <= 16; made++) {
            RUNNER.run("Promise 2: clear answers how many there were, " + made,
                "fill " + made + "; clear = " + made + "; clear = 0; expressions = 0");
        }
        RUNNER.run("Promise 2: clear takes all expressions away, one", """
            symbol 0 = 0; clear = 1; expressions = 0; kinds = 0; terms X! = -1; terms 0 = -1; add 0 0 = -1
            """);
        RUNNER.run("Promise 2: clear takes all expressions away, 16", """
            fill 16; clear = 16; expressions = 0; kinds = 0; terms 0 = -1; terms 15 = -1; same 0 15 = -1
            degree 15 = -2
            power 15 0 = -1; symbol 1 = 0; terms 1 = -1
            """);
        RUNNER.run("Promise 2: clear counts no refused calls", """
            symbol 0 = 0; symbol 3 = -1; power 0 7 = -4; add 0 1 = -1; clear = 1
            fill 16; number 1 = -2; symbol 0 = -2; clear = 16
            """);
    }

    private static void symbol() {
        RUNNER.run("Promise 3: symbol, -1 if it is not good", """
            symbol S! = -1; symbol -1 = -1; symbol 3 = -1; fill 15; symbol S! = -1; symbol 2 = 15
            poly 15 = 1@1
            """);
        RUNNER.run("Promise 3: symbol, -2 if there are 16 expressions", """
            fill 15; symbol 0 = 15; symbol 0 = -2; symbol 1 = -2; symbol 2 = -2
            poly 15 = 1@49
            """);
    }

    private static void number() {
        int[][] residues = {{0, 0}, {1, 1}, {10006, 10006}, {10007, 0}, {10008, 1}, {20013, 10006}, {20014, 0},
            {-1, 10006}, {-2, 10005}, {-10006, 1}, {-10007, 0}, {-10008, 10006}, {-20014, 0}, {-20015, 10006},
            {Integer.MAX_VALUE, 1461}, {Integer.MAX_VALUE - 1, 1460}, {Integer.MAX_VALUE - 1461, 0},
            {Integer.MAX_VALUE - 1462, 10006}, {Integer.MIN_VALUE, 8545}, {Integer.MIN_VALUE + 1, 8546},
            {Integer.MIN_VALUE + 1462, 0}, {Integer.MIN_VALUE + 1463, 1}};
        for (int[] pair : residues) {
            RUNNER.run("Promise 4: number modulo 10007, " + pair[0], """
                number %d = 0; coefficient 0 0 = %2$d; value 0 0 0 0 = %2$d
                """.formatted(pair[0], pair[1]) + "poly 0 = " + (pair[1] == 0 ? "0" : pair[1] + "@0"));
        }
        RUNNER.run("Promise 4: number, -2 if there are 16 expressions", """
            fill 15; number -1 = 15; number -1 = -2; number 0 = -2; number MIN = -2; number MAX = -2
            poly 15 = 10006@0
            """);
    }

    private static void addAndSubtract() {
        for (String call : new String[] {"add", "subtract"}) {
            String title = "Promise " + (call.equals("add") ? 5 : 6) + ": " + call;
            RUNNER.run(title + ", -1 if x or y is not good", """
                %1$s 0 0 = -1; number 1 = 0; symbol 2 = 1
                %1$s -1 1 = -1; %1$s 1 -1 = -1; %1$s 2 1 = -1; %1$s 1 2 = -1
                %1$s X! 1 = -1; %1$s 1 X! = -1; %1$s X! X! = -1; %1$s 1 1 = 2
                """.formatted(call));
            RUNNER.run(title + ", -2 if there are 16 expressions", """
                symbol 2 = 0; fill 15; %1$s 0 14 = 15; %1$s 0 14 = -2; %1$s 15 15 = -2
                degree 15 = 1
                """.formatted(call));
        }
        RUNNER.run("Promise 5: add, the polynomial 0", """
            number 0 = 0; symbol 1 = 1; add 0 0 = 2; add 0 1 = 3; add 1 0 = 4; number 10006 = 5
            number 1 = 6; add 5 6 = 7
            poly 2 = 0
            poly 3 = 1@7
            poly 4 = 1@7
            poly 7 = 0
            """);
        RUNNER.run("Promise 6: subtract, the polynomial 0", """
            number 0 = 0; symbol 1 = 1; subtract 0 0 = 2; subtract 0 1 = 3; subtract 1 0 = 4; subtract 1 1 = 5
            poly 2 = 0
            poly 3 = 10006@7
            poly 4 = 1@7
            poly 5 = 0
            """);
    }

    private static void multiply() {
        RUNNER.run("Promise 7: multiply, -1 if x or y is not good", """
            multiply 0 0 = -1; symbol 0 = 0; symbol 1 = 1
            multiply -1 1 = -1; multiply 1 -1 = -1; multiply 2 1 = -1; multiply 1 2 = -1
            multiply X! 1 = -1; multiply 1 X! = -1; multiply X! X! = -1; multiply 1 1 = 2
            """);
        RUNNER.run("Promise 7: multiply, -2 if there are 16 expressions", """
            symbol 2 = 0; fill 15; multiply 0 14 = 15; multiply 0 14 = -2; multiply 0 15 = -2
            poly 15 = 9@1
            """);
        for (int d = 0; d <= 6; d++) {
            for (int e = 0; e <= 6; e++) {
                multiplyDegrees(d, e);
            }
        }
        RUNNER.run("Promise 7: multiply, the degree -1 of the polynomial 0 is never too great", """
            symbol 1 = 0; power 0 6 = 1; number 0 = 2; multiply 1 2 = 3; multiply 2 1 = 4; multiply 2 2 = 5
            poly 3 = 0
            poly 4 = 0
            poly 5 = 0
            """);
        RUNNER.run("Promise 7: multiply, a degree that has fallen is not too great", """
            symbol 1 = 0; power 0 6 = 1; number 2 = 2; add 1 2 = 3; multiply 3 0 = -3; subtract 3 1 = 4
            multiply 4 1 = 5
            poly 5 = 2@42
            """);
    }

    private static void multiplyDegrees(int d, int e) {
        String title = "Promise 7: multiply, -3 if the degree would be greater than 6, " + d + " + " + e;
        String factors = "symbol 0 = 0; symbol 2 = 1; power 0 %d = 2; power 1 %d = 3\n".formatted(d, e);
        RUNNER.run(title, factors + (d + e > 6 ? "multiply 2 3 = -3; multiply 3 2 = -3" : """
            multiply 2 3 = 4; multiply 3 2 = 5
            poly 4 = 1@%1$d
            poly 5 = 1@%1$d
            """.formatted(49 * d + e)));
    }

    private static void power() {
        RUNNER.run("Promise 8: power, -1 if x is not good", """
            power 0 0 = -1; symbol 0 = 0; power -1 2 = -1; power 1 2 = -1; power X! 0 = -1; power X! 6 = -1
            power 0 2 = 1
            """);
        RUNNER.run("Promise 8: power, -2 if there are 16 expressions", """
            symbol 2 = 0; fill 15; power 0 6 = 15; power 0 6 = -2; power 0 0 = -2
            poly 15 = 1@6
            """);
        RUNNER.run("Promise 8: power, -4 if n is not in 0 .. 6", """
            number 2 = 0; power 0 -1 = -4; power 0 0 = 1; power 0 6 = 2; power 0 7 = -4; power 0 N! = -4
            poly 1 = 1@0
            poly 2 = 64@0
            """);
        RUNNER.run("Promise 8: power, -4 if n is not in 0 .. 6, also for 0 and 1", """
            number 0 = 0; number 1 = 1; power 0 N! = -4; power 1 N! = -4
            """);
        for (int d = 0; d <= 6; d++) {
            for (int n = 0; n <= 6; n++) {
                powerOfDegree(d, n);
            }
        }
        everythingToThePowerZero();
        RUNNER.run("Promise 8: power, the degree -1 of the polynomial 0 is never too great", """
            number 0 = 0; power 0 1 = 1; power 0 2 = 2; power 0 3 = 3; power 0 4 = 4; power 0 5 = 5; power 0 6 = 6
            poly 1 = 0
            poly 2 = 0
            poly 3 = 0
            poly 4 = 0
            poly 5 = 0
            poly 6 = 0
            """);
    }

    private static void powerOfDegree(int d, int n) {
        String title = "Promise 8: power, -3 if the degree would be greater than 6, " + d + " * " + n;
        String base = "symbol 1 = 0; power 0 %d = 1; number 3 = 2; multiply 1 2 = 3\n".formatted(d);
        RUNNER.run(title, base + (d * n > 6 ? "power 3 " + n + " = -3"
            : "power 3 %d = 4\npoly 4 = %d@%d".formatted(n, power(3, n), 7 * d * n)));
    }

    private static int power(int base, int n) {
        int result = 1;
        for (int i = 0; i < n; i++) {
            result *= base;
        }
        return result;
    }

    private static void everythingToThePowerZero() {
        RUNNER.run("Promise 8: power, everything to the power 0 is 1", """
            number 0 = 0; number 1 = 1; number 10006 = 2; symbol 2 = 3; power 3 6 = 4; add 3 4 = 5
            power 0 0 = 6; power 1 0 = 7; power 2 0 = 8; power 3 0 = 9; power 4 0 = 10; power 5 0 = 11
            poly 6 = 1@0
            poly 7 = 1@0
            poly 8 = 1@0
            poly 9 = 1@0
            poly 10 = 1@0
            poly 11 = 1@0
            """);
    }

    private static void derive() {
        RUNNER.run("Promise 9: derive, -1 if x is not good", """
            derive 0 0 = -1; symbol 0 = 0; derive -1 0 = -1; derive 1 0 = -1; derive X! 0 = -1; derive X! 2 = -1
            derive 0 0 = 1
            """);
        RUNNER.run("Promise 9: derive, -2 if there are 16 expressions", """
            symbol 2 = 0; fill 15; derive 0 2 = 15; derive 0 2 = -2; derive 15 0 = -2
            poly 15 = 1@0
            """);
        RUNNER.run("Promise 9: derive, -4 if symbol is not good", """
            number 0 = 0; symbol 0 = 1; derive 0 -1 = -4; derive 1 3 = -4; derive 0 S! = -4; derive 1 S! = -4
            derive 1 0 = 2; derive 1 2 = 3
            poly 2 = 1@0
            poly 3 = 0
            """);
        for (int symbol = 0; symbol <= 2; symbol++) {
            for (int e = 0; e <= 6; e++) {
                deriveExponent(symbol, e);
            }
        }
        RUNNER.run("Promise 9: derive, the polynomial 0 and numbers", """
            number 0 = 0; number 10006 = 1; derive 0 0 = 2; derive 0 1 = 3; derive 0 2 = 4; derive 1 0 = 5
            derive 1 1 = 6; derive 1 2 = 7; degree 2 = -1; degree 7 = -1
            poly 3 = 0
            poly 4 = 0
            poly 5 = 0
            poly 6 = 0
            """);
        RUNNER.run("Promise 9: derive, every term", """
            symbol 0 = 0; symbol 1 = 1; symbol 2 = 2; add 0 1 = 3; add 3 2 = 4; power 4 3 = 5; derive 5 1 = 6
            poly 6 = 3@98 6@56 6@50 3@14 6@8 3@2
            """);
    }

    private static void deriveExponent(int symbol, int e) {
        // 10006 * s^e * t^(6-e), where t is the next symbol
        int next = (symbol + 1) % 3;
        int triple = (e - 1) * STEPS[symbol] + (6 - e) * STEPS[next];
        RUNNER.run("Promise 9: derive, exponent " + e + " of symbol " + symbol, """
            symbol %d = 0; symbol %d = 1; power 0 %d = 2; power 1 %d = 3; multiply 2 3 = 4; number 10006 = 5
            multiply 4 5 = 6; derive 6 %d = 7
            """.formatted(symbol, next, e, 6 - e, symbol)
            + "poly 7 = " + (e == 0 ? "0" : (10007 - e) + "@" + triple));
    }

    private static void substitute() {
        RUNNER.run("Promise 10: substitute, -1 if x or y is not good", """
            substitute 0 0 0 = -1; symbol 0 = 0; symbol 1 = 1
            substitute -1 0 1 = -1; substitute 2 0 1 = -1; substitute 1 0 -1 = -1; substitute 1 0 2 = -1
            substitute X! 0 1 = -1; substitute 1 0 X! = -1; substitute X! 0 X! = -1; substitute 0 0 1 = 2
            poly 2 = 1@7
            """);
        RUNNER.run("Promise 10: substitute, -1 also for a y that would not be used", """
            number 5 = 0; substitute 0 0 1 = -1; substitute 0 0 -1 = -1; number 0 = 1; substitute 1 0 2 = -1
            """);
        RUNNER.run("Promise 10: substitute, -2 if there are 16 expressions", """
            symbol 2 = 0; fill 15; substitute 0 2 14 = 15; substitute 0 2 14 = -2; substitute 15 0 0 = -2
            poly 15 = 9@0
            """);
        RUNNER.run("Promise 10: substitute, -4 if symbol is not good", """
            symbol 0 = 0; number 0 = 1; substitute 0 -1 0 = -4; substitute 0 3 0 = -4; substitute 0 S! 0 = -4
            substitute 1 S! 0 = -4; substitute 0 S! 1 = -4; substitute 0 0 0 = 2; substitute 0 2 0 = 3
            """);
        for (int symbol = 0; symbol <= 2; symbol++) {
            for (int e = 0; e <= 6; e++) {
                for (int others = 0; others <= 6 - e; others++) {
                    for (int d = 0; d <= 6; d++) {
                        substituteDegrees(symbol, e, others, d);
                    }
                }
            }
        }
        substituteSomeTermTooHigh();
        substituteExponentZero();
        substitutePolynomialZero();
    }

    private static void substituteDegrees(int symbol, int e, int others, int d) {
        // t^d + 1 in place of s in s^e * t^others, where t is the next symbol
        int next = (symbol + 1) % 3;
        String title = "Promise 10: substitute, -3 if %d + %d * %d is greater than 6, symbol %d"
            .formatted(others, e, d, symbol);
        String made = """
            symbol %d = 0; symbol %d = 1; power 0 %d = 2; power 1 %d = 3; multiply 2 3 = 4; power 1 %d = 5
            number 1 = 6; add 5 6 = 7
            """.formatted(symbol, next, e, others, d);
        int degree = others + e * d;
        int atTwo = power(power(2, d) + 1, e) * power(2, others);
        RUNNER.run(title, made + (degree > 6 ? "substitute 4 %d 7 = -3".formatted(symbol) : """
            substitute 4 %1$d 7 = 8; degree 8 = %2$d; degreeIn 8 %3$d = %2$d; degreeIn 8 %1$d = 0; value 8 2 2 2 = %4$d
            """.formatted(symbol, degree, next, atTwo % 10007)));
    }

    private static void substituteSomeTermTooHigh() {
        RUNNER.run("Promise 10: substitute, -3 if some term is too high though it cancels", """
            symbol 0 = 0; symbol 1 = 1; symbol 2 = 2; power 0 2 = 3; power 1 3 = 4; power 2 2 = 5
            multiply 3 4 = 6; multiply 0 4 = 7; multiply 7 5 = 8; subtract 6 8 = 9     # a^2 b^3 - a b^3 c^2
            substitute 9 0 5 = -3
            """);
        RUNNER.run("Promise 10: substitute, -3 if only the lowest term is too high", """
            symbol 0 = 0; symbol 1 = 1; symbol 2 = 2; power 0 6 = 3; add 3 1 = 4; power 1 6 = 5
            add 4 2 = 6; power 2 6 = 7                                                 # a^6 + b + c
            substitute 6 1 7 = 8; substitute 6 2 5 = 9
            poly 8 = 1@294 1@6 1@1
            poly 9 = 1@294 1@42 1@7
            multiply 1 2 = 10; add 3 10 = 11                                           # a^6 + b c
            substitute 11 1 7 = -3; substitute 11 2 5 = -3; substitute 11 2 7 = -3
            """);
        RUNNER.run("Promise 10: substitute, a term with the coefficient 0 is none", """
            symbol 0 = 0; symbol 1 = 1; power 0 2 = 2; add 2 1 = 3; subtract 3 2 = 4
            power 1 6 = 5                                                              # 4 is a^2 + b - a^2
            substitute 3 0 5 = -3; substitute 4 0 5 = 6
            poly 6 = 1@7
            """);
    }

    private static void substituteExponentZero() {
        RUNNER.run("Promise 10: substitute, an exponent of 0 counts 0", """
            symbol 0 = 0; symbol 1 = 1; symbol 2 = 2; power 1 6 = 3; power 2 6 = 4; number 7 = 5; add 3 5 = 6
            substitute 3 0 4 = 7; substitute 3 2 4 = 8; substitute 5 0 4 = 9; substitute 5 1 4 = 10
            substitute 5 2 4 = 11
            substitute 6 0 4 = 12; substitute 4 0 3 = 13; substitute 4 1 4 = 14; substitute 6 2 3 = 15
            poly 7 = 1@42
            poly 8 = 1@42
            poly 9 = 7@0
            poly 10 = 7@0
            poly 11 = 7@0
            poly 12 = 1@42 7@0
            poly 13 = 1@6
            poly 14 = 1@6
            poly 15 = 1@42 7@0
            """);
    }

    private static void substitutePolynomialZero() {
        RUNNER.run("Promise 10: substitute in the polynomial 0", """
            number 0 = 0; symbol 0 = 1; power 1 6 = 2; substitute 0 0 2 = 3; substitute 0 1 2 = 4
            substitute 0 2 0 = 5
            poly 3 = 0
            poly 4 = 0
            poly 5 = 0
            """);
        RUNNER.run("Promise 10: substitute, the polynomial 0 in place of a symbol", """
            number 0 = 0; symbol 0 = 1; symbol 1 = 2; power 1 6 = 3; power 2 6 = 4; number 3 = 5
            add 3 4 = 6; add 6 5 = 7
            substitute 7 0 0 = 8; substitute 7 1 0 = 9; substitute 7 2 0 = 10; substitute 3 0 0 = 11
            substitute 5 0 0 = 12
            poly 8 = 1@42 3@0
            poly 9 = 1@294 3@0
            poly 10 = 1@294 1@42 3@0
            poly 11 = 0
            poly 12 = 3@0
            """);
        RUNNER.run("Promise 10: substitute, a number in place of a symbol", """
            number 10006 = 0; symbol 0 = 1; symbol 1 = 2; power 1 3 = 3; power 2 3 = 4; multiply 3 4 = 5; add 5 3 = 6
            substitute 6 0 0 = 7; substitute 6 1 0 = 8
            poly 7 = 10006@21 10006@0
            poly 8 = 0
            """);
    }

    private static void orderAndLimits() {
        for (int made : new int[] {0, 1, 15, 16}) {
            RUNNER.run("Promise 20: numbered from 0 on again after clear, " + made, """
                fill %d; clear = %1$d; symbol 1 = 0; number 2 = 1; add 0 1 = 2; subtract 0 1 = 3; multiply 0 1 = 4
                power 0 6 = 5; derive 5 1 = 6; substitute 5 1 1 = 7
                poly 0 = 1@7
                poly 1 = 2@0
                poly 2 = 1@7 2@0
                poly 3 = 1@7 10005@0
                poly 4 = 2@7
                poly 5 = 1@42
                poly 6 = 6@35
                poly 7 = 64@0
                """.formatted(made));
        }
        RUNNER.run("Promise 20: numbered from 0 on again, each time", """
            symbol 0 = 0; clear = 1; symbol 1 = 0; symbol 2 = 1; clear = 2; clear = 0; number 4 = 0; number 5 = 1
            number 6 = 2; clear = 3; symbol 3 = -1; symbol 2 = 0
            poly 0 = 1@1
            """);
        RUNNER.run("Promise 20: after clear there is room for 16 again", """
            fill 16; number 1 = -2; clear = 16; fill 15; symbol 0 = 15; symbol 0 = -2
            poly 15 = 1@49
            """);
    }

    public static void main(String[] args) {
        newObject();
        clear();
        symbol();
        number();
        addAndSubtract();
        multiply();
        power();
        derive();
        substitute();
        orderAndLimits();
        RUNNER.finish();
    }
}
