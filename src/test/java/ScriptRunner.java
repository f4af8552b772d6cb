import java.util.ArrayList;
import java.util.Arrays;
import java.util.List;

/**
 * Runs calls that are written as text, each with the answer that is due: "add 0 1 = 2". Calls are parted by a
 * semicolon or a new line; what follows # is left out.
 *
 * Every call is made twice: on an object of its own, after all calls before it that changed something, and on one
 * object that gets all calls of the script in turn (until it has had the 512 calls that the document promises). What
 * a call leaves behind is looked at as well: a question and a refused call (one that is due an answer below 0) change
 * nothing, neither what the questions answer nor the number that the next expression gets; a call that makes an
 * expression adds one and leaves the others as they were; clear leaves what a new object has.
 *
 * Beside the calls there are:
 * - "poly 3 = 2@49 1@0": expression 3 is 2 * a + 1 (coefficients @ triples, falling; "poly 3 = 0" for none);
 * - "fill 15": the number 9 is made until there are 15 expressions;
 * - X! S! N! T! in place of an argument: every one of some wrong expressions, symbols, powers, triples in turn;
 * - MIN and MAX for the least and the greatest int.
 */
final class ScriptRunner {
    private static final int MOST_EXPRESSIONS = 16;

    // A reading asks for the terms of 17 expressions and for the next number with 3 calls, after the call looked at.
    private static final int CALLS_BESIDE_TERMS = MOST_EXPRESSIONS + 1 + 3 + 1;

    private static final class Step {
        final String name;
        final int[] arguments;

        Step(String name, int... arguments) {
            this.name = name;
            this.arguments = arguments;
        }

        @Override
        public String toString() {
            String listed = Arrays.toString(arguments);
            return name + "(" + listed.substring(1, listed.length() - 1) + ")";
        }
    }

    private interface Reading {
        String read(SymbolicForms f, int looked);
    }

    private final List<Step> changes = new ArrayList<>();
    private String title = "";
    private SymbolicForms oneObject = new SymbolicForms();
    private int callsOnOneObject = 0;
    private int calls = 0;
    private int wrong = 0;
    private int scripts = 0;

    /** Ends the program, with exit code 1 if an answer was not the one that is due. */
    void finish() {
        System.out.println(wrong == 0 ? scripts + " scripts, all answers are as due"
            : wrong + " answers are not as due");
        System.exit(wrong == 0 ? 0 : 1);
    }

    void run(String scriptTitle, String script) {
        title = scriptTitle;
        scripts++;
        changes.clear();
        renewOneObject();
        // No call may ever throw; one that does must not keep the other scripts from being run.
        try {
            runStatements(script);
        } catch (RuntimeException thrown) {
            report("stopped by " + thrown);
        }
    }

    private void runStatements(String script) {
        for (String line : script.split("\n")) {
            for (String statement : line.split("#")[0].split(";")) {
                if (!statement.isBlank()) {
                    runStatement(statement.trim());
                }
            }
        }
    }

    private void runStatement(String statement) {
        if (statement.startsWith("fill ")) {
            fill(Integer.parseInt(statement.substring(5)));
            return;
        }
        String[] sides = statement.split("=");
        String[] words = sides[0].trim().split(" +");
        if (words[0].equals("poly")) {
            checkPolynomial(Integer.parseInt(words[1]), sides[1].trim());
            return;
        }
        int want = number(sides[1].trim());
        for (int[] arguments : argumentLists(words)) {
            check(new Step(words[0], arguments), want);
        }
    }

    private void fill(int most) {
        for (int made = count(); made < most; made++) {
            check(new Step("number", 9), made);
        }
    }

    private List<int[]> argumentLists(String[] words) {
        List<int[]> lists = new ArrayList<>();
        lists.add(new int[words.length - 1]);
        for (int i = 1; i < words.length; i++) {
            List<int[]> longer = new ArrayList<>();
            for (int[] list : lists) {
                for (int value : values(words[i])) {
                    int[] copy = list.clone();
                    copy[i - 1] = value;
                    longer.add(copy);
                }
            }
            lists = longer;
        }
        return lists;
    }

    private int[] values(String word) {
        int least = Integer.MIN_VALUE;
        int most = Integer.MAX_VALUE;
        switch (word) {
            case "X!": return new int[] {-1, -16, count(), count() + 1, 16, 17, 18, least, most};
            case "S!": return new int[] {-1, 3, 4, 7, 49, least, most};
            case "N!": return new int[] {-1, 7, 8, least, most};
            case "T!": return new int[] {-1, -343, 343, 344, least, most};
            default: return new int[] {number(word)};
        }
    }

    private static int number(String word) {
        switch (word) {
            case "MIN": return Integer.MIN_VALUE;
            case "MAX": return Integer.MAX_VALUE;
            default: return Integer.parseInt(word);
        }
    }

    private void check(Step step, int want) {
        checkAnswer(replay(), step, want);
        checkCallCount();
        boolean clears = step.name.equals("clear");
        boolean makes = Calls.isMaker(step.name) && want >= 0;
        // Two readings that share no question: what a question changes is seen by the reading that does not ask it.
        checkLeft(step, clears, makes, this::readValues);
        checkLeft(step, clears, makes, this::readTerms);
        if (clears || makes) {
            changes.add(step);
        }
    }

    private void checkLeft(Step step, boolean clears, boolean makes, Reading reading) {
        int before = count();
        int looked = makes ? before : MOST_EXPRESSIONS + 1;
        SymbolicForms other = clears ? new SymbolicForms() : replay();
        String due = reading.read(other, looked) + (makes ? before + 1 : readNextNumber(other));
        SymbolicForms f = replay();
        ask(f, step);
        String left = reading.read(f, looked) + (makes ? ask(f, "expressions") : readNextNumber(f));
        checkCallCount();
        if (!left.equals(due)) {
            report(step + " left something other than is due");
        }
    }

    private void checkPolynomial(int x, String want) {
        SymbolicForms f = replay();
        String[] listed = want.equals("0") ? new String[0] : want.split(" +");
        checkAnswer(f, new Step("terms", x), listed.length);
        for (int i = 0; i < listed.length; i++) {
            String[] parts = listed[i].split("@");
            int triple = Integer.parseInt(parts[1]);
            checkAnswer(f, new Step("term", x, i), triple);
            checkAnswer(f, new Step("coefficient", x, triple), Integer.parseInt(parts[0]));
        }
        checkCallCount();
    }

    private void checkAnswer(SymbolicForms f, Step step, int want) {
        int got = ask(f, step);
        due(step.toString(), got, want);
        int gotOnOneObject = askOneObject(step);
        if (gotOnOneObject != got) {
            report(step + " after all calls before it answered " + gotOnOneObject + ", due is " + want);
        }
    }

    private int askOneObject(Step step) {
        if (callsOnOneObject >= Calls.MOST_CALLS) {
            renewOneObject();
        }
        callsOnOneObject++;
        return Calls.make(oneObject, step.name, step.arguments);
    }

    private void renewOneObject() {
        oneObject = new SymbolicForms();
        for (Step step : changes) {
            Calls.make(oneObject, step.name, step.arguments);
        }
        callsOnOneObject = changes.size();
    }

    private SymbolicForms replay() {
        calls = 0;
        SymbolicForms f = new SymbolicForms();
        for (Step step : changes) {
            ask(f, step);
        }
        return f;
    }

    private int count() {
        return replay().expressions();
    }

    private String readValues(SymbolicForms f, int looked) {
        StringBuilder text = new StringBuilder();
        for (int x = 0; x < looked; x++) {
            text.append(ask(f, "value", x, 1234, 5678, 9012)).append(' ');
            text.append(ask(f, "value", x, 3141, 5926, 5358)).append(' ');
        }
        return text.toString();
    }

    // Reads as many terms as the 512 calls leave room for, which is all of them but in scripts with many great sums.
    private String readTerms(SymbolicForms f, int looked) {
        int left = (Calls.MOST_CALLS - changes.size() - CALLS_BESIDE_TERMS) / 2;
        StringBuilder text = new StringBuilder();
        for (int x = 0; x < looked; x++) {
            int terms = ask(f, "terms", x);
            text.append(terms).append(':');
            for (int i = 0; i < terms && left > 0; i++) {
                int triple = ask(f, "term", x, i);
                text.append(triple).append('@').append(ask(f, "coefficient", x, triple)).append(' ');
                left--;
            }
        }
        return text.toString();
    }

    private String readNextNumber(SymbolicForms f) {
        return ask(f, "number", 4321) + " " + ask(f, "clear") + " " + ask(f, "number", 4321);
    }

    private int ask(SymbolicForms f, Step step) {
        return ask(f, step.name, step.arguments);
    }

    private int ask(SymbolicForms f, String name, int... arguments) {
        calls++;
        return Calls.make(f, name, arguments);
    }

    private void checkCallCount() {
        if (calls > Calls.MOST_CALLS) {
            report("this test makes " + calls + " calls on one object, more than the document promises");
        }
    }

    void due(String call, int got, int want) {
        if (got != want) {
            report(call + " answered " + got + ", due is " + want);
        }
    }

    private void report(String text) {
        wrong++;
        System.out.println(title + ": " + text);
    }
}
