/** Each promise of the document by itself: ordinary inputs, the edges it names, and wrong inputs. */
public final class PromiseTest {
    private static final ScriptRunner RUNNER = new ScriptRunner();

    private static void newObject() {
        RUNNER.run("promise 1", """
            expressions = 0; kinds = 0; terms 0 = -1; degree 0 = -2; same 0 0 = -1
            clear = 0
            """);
        SymbolicForms first = new SymbolicForms();
        first.symbol(0);
        SymbolicForms second = new SymbolicForms();
        RUNNER.due("expressions of a second object", second.expressions(), 0);
        RUNNER.due("number(5) on a second object", second.number(5), 0);
        RUNNER.due("coefficient(0, 49) of the first object", first.coefficient(0, 49), 1);
    }

    private static void readmeExample() {
        RUNNER.run("the example in README.md", """
            symbol 0 = 0; symbol 1 = 1; add 0 1 = 2; power 2 3 = 3
            poly 3 = 1@147 3@105 3@63 1@21
            coefficient 3 105 = 3; value 3 2 5 0 = 343; multiply 3 3 = 4; degree 4 = 6; power 3 3 = -3
            clear = 5; symbol 0 = 0
            """);
    }

    private static void clear() {
        RUNNER.run("promise 2", """
            symbol 0 = 0; symbol 1 = 1; symbol 2 = 2
            clear = 3
            expressions = 0; kinds = 0; same 0 0 = -1; degree 2 = -2; add 0 1 = -1
            clear = 0
            fill 16
            clear = 16
            expressions = 0
            number 2 = 0
            clear = 1
            """);
    }

    private static void symbol() {
        RUNNER.run("promise 3", """
            symbol S! = -1
            symbol 0 = 0; symbol 1 = 1; symbol 2 = 2; symbol 1 = 3
            poly 0 = 1@49
            poly 1 = 1@7
            poly 2 = 1@1
            poly 3 = 1@7
            symbol S! = -1
            fill 16
            symbol 0 = -2; symbol 1 = -2; symbol 2 = -2
            symbol S! = -1
            """);
    }

    private static void number() {
        RUNNER.run("promise 4", """
            number 0 = 0; number 1 = 1; number 10006 = 2; number 10007 = 3; number 10008 = 4
            number -1 = 5; number -10006 = 6; number -10007 = 7; number -10008 = 8
            number MAX = 9; number MIN = 10
            poly 0 = 0
            poly 1 = 1@0
            poly 2 = 10006@0
            poly 3 = 0
            poly 4 = 1@0
            poly 5 = 10006@0
            poly 6 = 1@0
            poly 7 = 0
            poly 8 = 10006@0
            poly 9 = 1461@0      # 2147483647 = 214598 * 10007 + 1461
            poly 10 = 8545@0     # -2147483648 = -214599 * 10007 + 8545
            fill 16
            number 1 = -2; number 0 = -2; number MIN = -2; number MAX = -2
            """);
    }

    private static void add() {
        RUNNER.run("promise 5", """
            symbol 0 = 0; symbol 1 = 1; add 0 1 = 2; add 2 2 = 3
            poly 2 = 1@49 1@7
            poly 3 = 2@49 2@7
            number 10005 = 4; number 2 = 5; add 4 5 = 6; add 4 4 = 7; add 3 6 = 8; add 6 3 = 9
            poly 6 = 0
            poly 7 = 10003@0
            poly 8 = 2@49 2@7
            poly 9 = 2@49 2@7
            power 2 6 = 10; add 10 10 = 11
            poly 11 = 2@294 12@252 30@210 40@168 30@126 12@84 2@42
            add X! 0 = -1; add 0 X! = -1; add X! X! = -1
            fill 16
            add 0 15 = -2; add X! 0 = -1; add 0 X! = -1
            """);
    }

    private static void subtract() {
        RUNNER.run("promise 6", """
            symbol 0 = 0; symbol 1 = 1; subtract 0 1 = 2; subtract 1 0 = 3; subtract 2 3 = 4
            poly 2 = 1@49 10006@7
            poly 3 = 10006@49 1@7
            poly 4 = 2@49 10005@7
            subtract 1 1 = 5; subtract 5 2 = 6; subtract 2 5 = 7
            poly 5 = 0
            poly 6 = 10006@49 1@7
            poly 7 = 1@49 10006@7
            number 10006 = 8; number 1 = 9; subtract 8 9 = 10; subtract 9 8 = 11
            poly 10 = 10005@0
            poly 11 = 2@0
            subtract X! 0 = -1; subtract 0 X! = -1; subtract X! X! = -1
            fill 16
            subtract 0 15 = -2; subtract X! 0 = -1; subtract 0 X! = -1
            """);
    }

    private static void multiply() {
        RUNNER.run("promise 7", """
            symbol 0 = 0; symbol 1 = 1; add 0 1 = 2; subtract 0 1 = 3; multiply 2 3 = 4
            poly 4 = 1@98 10006@14
            number 10006 = 5; multiply 5 5 = 6; multiply 2 5 = 7
            poly 6 = 1@0
            poly 7 = 10006@49 10006@7
            symbol 2 = 8; power 8 6 = 9; multiply 9 5 = 10; multiply 4 4 = 11; multiply 4 11 = 12
            poly 10 = 10006@6
            poly 11 = 1@196 10005@112 1@28
            poly 12 = 1@294 10004@210 3@126 10006@42
            multiply 9 0 = -3; multiply 0 9 = -3; multiply 9 9 = -3; multiply 12 8 = -3
            number 0 = 13; multiply 9 13 = 14; multiply 13 9 = 15
            poly 14 = 0
            poly 15 = 0
            multiply 9 9 = -2; multiply 0 0 = -2     # full: before the degree is looked at
            multiply X! 9 = -1; multiply 9 X! = -1
            """);
        RUNNER.run("promise 7, wrong inputs", """
            multiply 0 0 = -1
            symbol 0 = 0; power 0 6 = 1; multiply X! 1 = -1; multiply 1 X! = -1; multiply X! X! = -1
            power 0 5 = 2; multiply 2 0 = 3; multiply 2 2 = -3; multiply 2 1 = -3
            same 1 3 = 1
            """);
    }

    private static void power() {
        RUNNER.run("promise 8", """
            symbol 0 = 0; symbol 1 = 1; symbol 2 = 2; add 0 1 = 3; add 3 2 = 4; power 4 2 = 5; power 3 6 = 6
            poly 5 = 1@98 2@56 2@50 1@14 2@8 1@2
            poly 6 = 1@294 6@252 15@210 20@168 15@126 6@84 1@42
            power 6 1 = 7; power 6 0 = 8; number 0 = 9; power 9 0 = 10; power 9 6 = 11
            same 6 7 = 1
            poly 8 = 1@0
            poly 10 = 1@0
            poly 11 = 0
            number 7 = 12; power 12 6 = 13
            poly 13 = 7572@0     # 117649 = 11 * 10007 + 7572
            power 6 2 = -3; power 5 4 = -3; power 6 6 = -3
            power 6 N! = -4; power 9 N! = -4; power 12 N! = -4
            power X! 1 = -1; power X! N! = -1
            power 5 3 = 14
            terms 14 = 28
            coefficient 14 114 = 90     # a^2 b^2 c^2
            fill 16
            power 0 1 = -2; power 6 2 = -2; power 6 N! = -2
            power X! 1 = -1; power X! N! = -1
            """);
        RUNNER.run("promise 8, powers of each degree", """
            symbol 2 = 0; power 0 3 = 1; power 0 2 = 2; power 1 2 = 3; power 2 3 = 4; power 0 6 = 5
            same 3 4 = 1; same 4 5 = 1
            power 1 3 = -3; power 2 4 = -3; power 0 7 = -4; power 3 1 = 6; power 3 2 = -3
            power 0 4 = 7; power 7 1 = 8; power 7 2 = -3
            """);
    }

    private static void derive() {
        RUNNER.run("promise 9", """
            symbol 0 = 0; symbol 1 = 1; symbol 2 = 2
            power 0 3 = 3; power 1 2 = 4; multiply 3 4 = 5; multiply 5 2 = 6      # a^3 b^2 c
            derive 6 0 = 7; derive 6 1 = 8; derive 6 2 = 9; derive 9 2 = 10; derive 10 0 = 11
            poly 7 = 3@113
            poly 8 = 2@155
            poly 9 = 1@161
            poly 10 = 0
            poly 11 = 0
            derive 0 S! = -4; derive 10 S! = -4
            derive X! 0 = -1; derive X! S! = -1
            fill 16
            derive 0 0 = -2; derive 0 S! = -2
            derive X! 0 = -1; derive X! S! = -1
            """);
        RUNNER.run("promise 9, great coefficients and sums", """
            symbol 0 = 0; symbol 1 = 1; power 1 6 = 2; number 10006 = 3; multiply 2 3 = 4; add 4 0 = 5
            add 5 3 = 6                                               # 10006 b^6 + a + 10006
            derive 6 1 = 7; derive 6 0 = 8; derive 6 2 = 9; derive 3 0 = 10
            poly 7 = 10001@35
            poly 8 = 1@0
            poly 9 = 0
            poly 10 = 0
            symbol 2 = 11; power 11 6 = 12; derive 12 2 = 13; power 0 6 = 14; derive 14 0 = 15
            poly 13 = 6@5
            poly 15 = 6@245
            """);
    }

    private static void substitute() {
        RUNNER.run("promise 10", """
            symbol 0 = 0; symbol 1 = 1; symbol 2 = 2; add 0 1 = 3; power 3 2 = 4
            substitute 4 0 2 = 5; substitute 4 0 3 = 6; substitute 4 2 3 = 7; substitute 4 1 4 = 8
            poly 5 = 1@14 2@8 1@2
            poly 6 = 1@98 4@56 4@14
            poly 7 = 1@98 2@56 1@14
            degree 8 = 4; value 8 2 3 0 = 729
            number 0 = 9; substitute 4 0 9 = 10; substitute 9 0 8 = 11
            poly 10 = 1@14
            poly 11 = 0
            substitute X! 0 1 = -1; substitute 1 0 X! = -1; substitute X! S! 1 = -1; substitute 1 S! X! = -1
            substitute 1 S! 1 = -4; substitute 8 S! 8 = -4; substitute 9 S! 9 = -4
            substitute 8 0 8 = -3
            fill 16
            substitute 0 0 0 = -2; substitute 8 0 8 = -2; substitute 8 S! 8 = -2
            substitute X! 0 1 = -1; substitute 1 0 X! = -1; substitute X! S! 1 = -1; substitute 1 S! X! = -1
            """);
        substituteEachSymbol();
        substituteAtTheLimit();
        substituteZero();
    }

    private static void substituteEachSymbol() {
        RUNNER.run("promise 10, each symbol", """
            symbol 0 = 0; symbol 1 = 1; symbol 2 = 2; power 1 2 = 3; multiply 0 3 = 4
            power 2 3 = 5; multiply 4 5 = 6; number 1 = 7; add 6 7 = 8          # a b^2 c^3 + 1
            number 3 = 9
            substitute 8 0 9 = 10; substitute 8 1 9 = 11; substitute 8 2 9 = 12
            poly 10 = 3@17 1@0
            poly 11 = 9@52 1@0
            poly 12 = 27@63 1@0
            substitute 8 0 1 = 13; substitute 8 1 2 = 14; substitute 8 2 0 = 15
            poly 13 = 1@24 1@0
            poly 14 = 1@54 1@0
            poly 15 = 1@210 1@0
            """);
    }

    private static void substituteAtTheLimit() {
        RUNNER.run("promise 10, at the limit of the degree", """
            symbol 0 = 0; symbol 1 = 1; symbol 2 = 2; power 0 2 = 3; power 1 2 = 4; power 1 3 = 5
            multiply 3 4 = 6; multiply 3 5 = 7
            substitute 6 0 4 = 8                          # b^2 for a in a^2 b^2
            poly 8 = 1@42
            substitute 6 0 5 = -3                         # b^3 for a in a^2 b^2
            substitute 7 0 4 = -3                         # b^2 for a in a^2 b^3
            add 8 2 = 9                                   # b^6 + c
            substitute 7 2 9 = 10; substitute 0 0 9 = 11  # an exponent of 0 counts 0
            same 10 7 = 1; same 11 9 = 1
            substitute 3 0 9 = -3; substitute 7 0 9 = -3; substitute 7 S! 9 = -4
            """);
        RUNNER.run("promise 10, too high even though it cancels", """
            symbol 0 = 0; symbol 1 = 1; symbol 2 = 2; power 0 2 = 3; power 1 3 = 4; power 2 2 = 5
            multiply 3 4 = 6; multiply 0 4 = 7; multiply 7 5 = 8; subtract 6 8 = 9     # a^2 b^3 - a b^3 c^2
            substitute 9 0 5 = -3                         # c^2 for a gives b^3 c^4 - b^3 c^4
            substitute 9 0 2 = 10                         # c for a
            poly 10 = 10006@24 1@23
            """);
        RUNNER.run("promise 10, not the highest term is too high", """
            symbol 0 = 0; symbol 1 = 1; symbol 2 = 2; power 0 3 = 3; power 1 6 = 4; add 3 4 = 5
            power 2 3 = 6; power 2 2 = 7
            substitute 5 0 6 = -3                         # c^3 for a in a^3 + b^6
            substitute 5 0 7 = 8
            poly 8 = 1@42 1@6
            """);
    }

    private static void substituteZero() {
        RUNNER.run("promise 10, numbers and 0", """
            symbol 0 = 0; symbol 1 = 1; power 0 6 = 2; power 1 6 = 3; add 2 3 = 4; number 0 = 5; number 10006 = 6
            substitute 4 0 5 = 7; substitute 4 1 6 = 8; substitute 4 2 5 = 9; substitute 2 0 5 = 10
            poly 7 = 1@42
            poly 8 = 1@294 1@0
            poly 9 = 1@294 1@42
            poly 10 = 0
            substitute 5 0 4 = 11; substitute 6 1 4 = 12
            poly 11 = 0
            poly 12 = 10006@0
            """);
    }

    private static void expressions() {
        RUNNER.run("promise 11", """
            expressions = 0
            number 1 = 0; expressions = 1; symbol 0 = 1; expressions = 2; add 0 1 = 2; expressions = 3
            subtract 0 1 = 3; expressions = 4; multiply 0 1 = 4; expressions = 5; power 0 1 = 5; expressions = 6
            derive 0 1 = 6; expressions = 7; substitute 0 1 0 = 7; expressions = 8
            fill 16
            expressions = 16; number 1 = -2; expressions = 16
            clear = 16
            expressions = 0
            """);
    }

    private static void same() {
        RUNNER.run("promise 12", """
            symbol 0 = 0; symbol 1 = 1; add 0 1 = 2; add 1 0 = 3; number -1 = 4; number 10006 = 5
            power 0 6 = 6; number 0 = 7; subtract 0 0 = 8; number 1 = 9; symbol 2 = 10; add 2 9 = 11
            same 2 3 = 1; same 3 2 = 1; same 4 5 = 1; same 7 8 = 1; same 10 10 = 1
            same 0 1 = 0; same 2 0 = 0; same 0 2 = 0; same 6 7 = 0; same 7 6 = 0; same 7 9 = 0; same 4 9 = 0
            same 10 7 = 0; same 2 11 = 0; same 11 2 = 0; same 9 10 = 0
            same X! 0 = -1; same 0 X! = -1; same X! X! = -1
            """);
    }

    private static void degree() {
        RUNNER.run("promise 13", """
            symbol 0 = 0; symbol 2 = 1; number 0 = 2; number 5 = 3; power 1 5 = 4; add 0 4 = 5; subtract 5 4 = 6
            symbol 1 = 7; multiply 4 7 = 8; add 8 5 = 9; multiply 0 7 = 10; multiply 10 1 = 11
            degree 0 = 1; degree 1 = 1; degree 2 = -1; degree 3 = 0; degree 4 = 5; degree 5 = 5; degree 6 = 1
            degree 7 = 1; degree 8 = 6; degree 9 = 6; degree 10 = 2; degree 11 = 3
            degree X! = -2
            """);
    }

    private static void degreeIn() {
        RUNNER.run("promise 14", """
            symbol 0 = 0; symbol 1 = 1; symbol 2 = 2; number 0 = 3; number 5 = 4
            degreeIn 3 0 = -1; degreeIn 3 1 = -1; degreeIn 3 2 = -1
            degreeIn 4 0 = 0; degreeIn 4 1 = 0; degreeIn 4 2 = 0
            degreeIn 0 0 = 1; degreeIn 0 1 = 0; degreeIn 0 2 = 0
            power 1 2 = 5; power 2 3 = 6; multiply 0 5 = 7; multiply 7 6 = 8; power 0 6 = 9; add 8 9 = 10
            degreeIn 8 0 = 1; degreeIn 8 1 = 2; degreeIn 8 2 = 3
            degreeIn 10 0 = 6; degreeIn 10 1 = 2; degreeIn 10 2 = 3
            degreeIn 0 S! = -3; degreeIn 3 S! = -3; degreeIn 10 S! = -3
            degreeIn X! 0 = -2; degreeIn X! S! = -2
            """);
    }

    private static void coefficient() {
        RUNNER.run("promise 15", """
            symbol 0 = 0; power 0 6 = 1; number -3 = 2; multiply 1 2 = 3; add 3 2 = 4
            coefficient 4 294 = 10004; coefficient 4 0 = 10004; coefficient 4 49 = 0; coefficient 4 342 = 0
            coefficient 0 49 = 1; coefficient 0 48 = 0; coefficient 0 50 = 0
            coefficient 4 T! = -2; coefficient X! 0 = -1; coefficient X! T! = -1
            """);
    }

    private static void terms() {
        RUNNER.run("promise 16", """
            symbol 0 = 0; symbol 1 = 1; symbol 2 = 2; number 1 = 3; add 0 1 = 4; add 2 3 = 5; add 4 5 = 6
            power 6 6 = 7; number 0 = 8; subtract 6 0 = 9
            terms 0 = 1; terms 3 = 1; terms 4 = 2; terms 6 = 4; terms 7 = 84; terms 8 = 0; terms 9 = 3
            terms X! = -1
            """);
    }

    private static void term() {
        RUNNER.run("promise 17", """
            symbol 0 = 0; symbol 1 = 1; symbol 2 = 2; power 2 6 = 3; add 3 0 = 4; add 4 1 = 5; number 2 = 6
            add 5 6 = 7; power 0 6 = 8; number 0 = 9
            term 7 0 = 49; term 7 1 = 7; term 7 2 = 6; term 7 3 = 0; term 7 4 = -2; term 7 5 = -2; term 7 -1 = -2
            term 7 342 = -2; term 7 343 = -2; term 7 MIN = -2; term 7 MAX = -2
            term 8 0 = 294; term 8 1 = -2; term 8 -1 = -2; term 6 0 = 0; term 6 1 = -2
            term 9 0 = -2; term 9 -1 = -2; term 9 1 = -2
            term X! 0 = -1; term X! -1 = -1; term X! 4 = -1
            """);
    }

    private static void value() {
        RUNNER.run("promise 18", """
            symbol 0 = 0; symbol 1 = 1; symbol 2 = 2
            value 0 3 5 7 = 3; value 1 3 5 7 = 5; value 2 3 5 7 = 7
            value 0 -1 0 0 = 10006; value 1 1 10007 1 = 0; value 1 1 10008 1 = 1; value 2 0 0 -10006 = 1
            value 0 MIN 1 1 = 8545; value 1 1 MIN 1 = 8545; value 2 1 1 MIN = 8545
            value 0 MAX 1 1 = 1461; value 1 1 MAX 1 = 1461; value 2 1 1 MAX = 1461
            power 1 2 = 3; multiply 0 3 = 4; power 2 3 = 5; multiply 4 5 = 6            # a b^2 c^3
            value 6 2 3 5 = 2250; value 6 10006 10006 10006 = 1; value 6 2 0 5 = 0; value 6 1 1 -1 = 10006
            number -7 = 7; multiply 6 7 = 8; add 8 7 = 9                                # -7 a b^2 c^3 - 7
            value 8 2 3 5 = 4264; value 9 2 3 5 = 4257; value 9 0 3 5 = 10000; value 7 0 0 0 = 10000
            number 0 = 10; value 10 1 2 3 = 0; value 10 MIN MAX 0 = 0
            value X! 1 1 1 = -1; value X! MIN MIN MIN = -1
            """);
    }

    private static void kinds() {
        RUNNER.run("promise 19", """
            kinds = 0
            symbol 0 = 0; kinds = 1; symbol 0 = 1; kinds = 1; symbol 1 = 2; kinds = 2; symbol 0 = 3; kinds = 2
            symbol 1 = 4; kinds = 2; number 10007 = 5; kinds = 3; subtract 0 1 = 6; kinds = 3
            number 1 = 7; kinds = 4; power 2 0 = 8; kinds = 4; number 2 = 9; kinds = 5
            clear = 10
            kinds = 0
            fill 16
            kinds = 1
            """);
        RUNNER.run("promise 19, all different", """
            number 0 = 0; number 1 = 1; number 2 = 2; number 3 = 3; number 4 = 4; number 5 = 5; number 6 = 6
            number 7 = 7; number 8 = 8; number 9 = 9; symbol 0 = 10; symbol 1 = 11; symbol 2 = 12
            add 10 11 = 13; power 10 6 = 14; power 12 6 = 15
            kinds = 16
            """);
    }

    private static void orderAndLimits() {
        RUNNER.run("promise 20", """
            symbol 0 = 0; symbol 1 = 1; add 0 1 = 2; number 1 = 3; add 2 3 = 4; power 4 6 = 5
            clear = 6
            terms 0 = -1; degree 4 = -2; same 0 1 = -1; power 4 0 = -1
            number 3 = 0; symbol 2 = 1; add 0 1 = 2; subtract 0 1 = 3; multiply 0 1 = 4
            poly 0 = 3@0
            poly 1 = 1@1
            poly 2 = 1@1 3@0
            poly 3 = 10006@1 3@0
            poly 4 = 3@1
            clear = 5
            symbol 1 = 0
            poly 0 = 1@7
            fill 16
            number 1 = -2
            clear = 16
            number 1 = 0
            """);
        String everySlotUsed = """
            symbol 0 = 0; symbol 1 = 1; add 0 1 = 2; symbol 2 = 3; add 2 3 = 4; number 1 = 5; add 4 5 = 6
            power 6 6 = 7; power 6 6 = 8; power 6 6 = 9; power 6 6 = 10; power 6 6 = 11; power 6 6 = 12
            power 6 6 = 13; power 6 6 = 14; power 6 6 = 15
            clear = 16
            number 0 = 0; number 0 = 1; number 0 = 2; number 0 = 3; number 0 = 4; number 0 = 5; number 0 = 6
            """;
        RUNNER.run("promise 20, nothing old shows through", everySlotUsed + """
            symbol 0 = 7; number 4 = 8; add 7 8 = 9; subtract 7 8 = 10; multiply 7 8 = 11; power 7 2 = 12
            derive 7 0 = 13; substitute 11 0 8 = 14; power 7 0 = 15
            poly 7 = 1@49
            poly 8 = 4@0
            poly 9 = 1@49 4@0
            poly 10 = 1@49 10003@0
            poly 11 = 4@49
            poly 12 = 1@98
            poly 13 = 1@0
            poly 14 = 16@0
            poly 15 = 1@0
            kinds = 9
            """);
    }

    public static void main(String[] args) {
        Runnable[] promises = {PromiseTest::newObject, PromiseTest::clear, PromiseTest::symbol, PromiseTest::number,
            PromiseTest::add, PromiseTest::subtract, PromiseTest::multiply, PromiseTest::power, PromiseTest::derive,
            PromiseTest::substitute, PromiseTest::expressions, PromiseTest::same, PromiseTest::degree,
            PromiseTest::degreeIn, PromiseTest::coefficient, PromiseTest::terms, PromiseTest::term,
            PromiseTest::value, PromiseTest::kinds, PromiseTest::orderAndLimits};
        for (Runnable promise : promises) {
            promise.run();
        }
        readmeExample();
        RUNNER.finish();
    }
}
