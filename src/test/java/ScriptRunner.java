import java.util.ArrayList;
import java.util.Arrays;
import java.util.List;

/**
 * Runs calls that are written as text, each with the answer that is due: "add 0 1 = 2". Calls are parted by a
 * semicolon or a new line; what follows # is left out.
 *
 * Every call is made on an object of its own, after all calls before it that changed something, so that no object
 * gets more than the 512 calls that the document promises. A question and a refused call (one that is due an
 * answer below 0) are also seen to change nothing.
 *
 * Beside the calls there are:
 * - "poly 3 = 2@49 1@0": expression 3 is 2 * a + 1 (coefficients @ triples, falling; "poly 3 = 0" for none);
 * - "fill": numbers are made until there are 16 expressions;
 * - X! S! N! T! in place of an argument: every one of some wrong expressions, symbols, powers, triples in turn;
 * - MIN and MAX for the least and the greatest int.
 */
final class ScriptRunner {
    private static final class Step {
        final String name;
        final int[] arguments;

        Step(String name, int[] arguments) {
            this.name = name;
            this.arguments = arguments;
        }

        @Override
        public String toString() {
            String listed = Arrays.toString(arguments);
            return name + "(" + listed.substring(1, listed.length() - 1) + ")";
        }
    }

    private final List<Step> changes = new ArrayList<>();
    private String title = "";
    private int calls = 0;
    private int wrong = 0;

    int wrong() {
        return wrong;
    }

    void run(String scriptTitle, String script) {
        title = scriptTitle;
        changes.clear();
        for (String line : script.split("\n")) {
            for (String statement : line.split("#")[0].split(";")) {
                if (!statement.isBlank()) {
                    runStatement(statement.trim());
                }
            }
        }
    }

    private void runStatement(String statement) {
        if (statement.equals("fill")) {
            for (int made = count(); made < 16; made++) {
                check(new Step("number", new int[] {9}), made);
            }
            return;
        }
        String[] sides = statement.split("=");
        String[] words = sides[0].trim().split(" +");
        if (words[0].equals("poly")) {
            checkPolynomial(Integer.parseInt(words[1]), sides[1].trim());
            return;
        }
        int want = number(sides[1].trim());
        for (int[] arguments : argumentLists(words)) {
            check(new Step(words[0], arguments), want);
        }
    }

    private List<int[]> argumentLists(String[] words) {
        List<int[]> lists = new ArrayList<>();
        lists.add(new int[words.length - 1]);
        for (int i = 1; i < words.length; i++) {
            List<int[]> longer = new ArrayList<>();
            for (int[] list : lists) {
                for (int value : values(words[i])) {
                    int[] copy = list.clone();
                    copy[i - 1] = value;
                    longer.add(copy);
                }
            }
            lists = longer;
        }
        return lists;
    }

    private int[] values(String word) {
        int least = Integer.MIN_VALUE;
        int most = Integer.MAX_VALUE;
        switch (word) {
            case "X!": return new int[] {-1, -16, count(), count() + 1, 16, 17, 18, least, most};
            case "S!": return new int[] {-1, 3, 4, 7, 49, least, most};
            case "N!": return new int[] {-1, 7, 8, least, most};
            case "T!": return new int[] {-1, -343, 343, 344, least, most};
            default: return new int[] {number(word)};
        }
    }

    private static int number(String word) {
        switch (word) {
            case "MIN": return Integer.MIN_VALUE;
            case "MAX": return Integer.MAX_VALUE;
            default: return Integer.parseInt(word);
        }
    }

    private void check(Step step, int want) {
        SymbolicForms f = replay();
        boolean changesNothing = want < 0 || !(Calls.isMaker(step.name) || step.name.equals("clear"));
        String before = changesNothing ? everything(f) : "";
        due(step.toString(), ask(f, step), want);
        if (changesNothing) {
            if (!everything(f).equals(before)) {
                report(step + " changed something");
            }
        } else {
            changes.add(step);
        }
        checkCallCount();
    }

    private void checkPolynomial(int x, String want) {
        SymbolicForms f = replay();
        String[] listed = want.equals("0") ? new String[0] : want.split(" +");
        due("terms(" + x + ")", ask(f, "terms", x), listed.length);
        for (int i = 0; i < listed.length; i++) {
            String[] parts = listed[i].split("@");
            int triple = Integer.parseInt(parts[1]);
            due("term(" + x + ", " + i + ")", ask(f, "term", x, i), triple);
            due("coefficient(" + x + ", " + triple + ")", ask(f, "coefficient", x, triple),
                Integer.parseInt(parts[0]));
        }
        checkCallCount();
    }

    private SymbolicForms replay() {
        calls = 0;
        SymbolicForms f = new SymbolicForms();
        for (Step step : changes) {
            ask(f, step);
        }
        return f;
    }

    private int count() {
        return replay().expressions();
    }

    private String everything(SymbolicForms f) {
        int count = ask(f, "expressions");
        StringBuilder text = new StringBuilder();
        text.append(count).append(' ').append(ask(f, "kinds"));
        for (int x = 0; x < count; x++) {
            text.append(';').append(ask(f, "terms", x)).append(' ').append(ask(f, "degree", x));
            text.append(' ').append(ask(f, "value", x, 1234, 5678, 9012));
            text.append(' ').append(ask(f, "value", x, 3141, 5926, 5358));
        }
        return text.toString();
    }

    private int ask(SymbolicForms f, Step step) {
        return ask(f, step.name, step.arguments);
    }

    private int ask(SymbolicForms f, String name, int... arguments) {
        calls++;
        return Calls.make(f, name, arguments);
    }

    private void checkCallCount() {
        if (calls > Calls.MOST_CALLS) {
            report("this test makes " + calls + " calls on one object, more than the document promises");
        }
    }

    void due(String call, int got, int want) {
        if (got != want) {
            report(call + " answered " + got + ", due is " + want);
        }
    }

    private void report(String text) {
        wrong++;
        System.out.println(title + ": " + text);
    }
}
