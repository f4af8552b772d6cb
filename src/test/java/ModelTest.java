import java.util.Arrays;
import java.util.Map;
import java.util.TreeMap;

/** Runs of mixed calls and of one call over and over against the model, each object used for all its 512 calls. */
public final class ModelTest {
    private static final int OBJECTS = 600;

    /** Each kind of answer that a call can give must turn up this often, or the runs would prove little. */
    private static final int LEAST_SEEN = 20;

    private static final String[] NAMES = {"symbol", "symbol", "number", "number", "add", "add", "add", "subtract",
        "subtract", "multiply", "multiply", "multiply", "power", "power", "power", "derive", "derive", "substitute",
        "substitute", "substitute", "expressions", "same", "degree", "degreeIn", "coefficient", "terms", "term",
        "value", "kinds"};

    private static final String[] ANSWERS_DUE = {"clear good", "symbol good", "symbol -1", "symbol -2",
        "number good", "number -2", "add good", "add -1", "add -2", "subtract good", "subtract -1", "subtract -2",
        "multiply good", "multiply -1", "multiply -2", "multiply -3", "power good", "power -1", "power -2",
        "power -3", "power -4", "derive good", "derive -1", "derive -2", "derive -4", "substitute good",
        "substitute -1", "substitute -2", "substitute -3", "substitute -4", "expressions good", "same good",
        "same -1", "degree good", "degree -1", "degree -2", "degreeIn good", "degreeIn -1", "degreeIn -2",
        "degreeIn -3", "coefficient good", "coefficient -1", "coefficient -2", "terms good", "terms -1",
        "term good", "term -1", "term -2", "value good", "value -1", "kinds good"};

    private static final String[] REPEATED = {"clear", "symbol 2", "symbol 3", "number -5", "add 0 1", "add 0 16",
        "subtract 0 1", "subtract -1 0", "multiply 0 1", "multiply 16 0", "power 0 6", "power 0 7", "power 16 0",
        "derive 0 0", "derive 0 3", "derive 16 0", "substitute 0 0 1", "substitute 0 3 1", "substitute 0 0 16",
        "expressions", "same 0 1", "same 0 16", "degree 0", "degree 16", "degreeIn 0 0", "degreeIn 0 3",
        "degreeIn 16 0", "coefficient 0 49", "coefficient 0 343", "coefficient 16 49", "terms 0", "terms 16",
        "term 0 0", "term 0 1", "term 16 0", "value 0 -1 2 3", "value 16 1 2 3", "kinds"};

    private static final int[] ODD_NUMBERS = {-1, -2, 3, 7, 16, 17, 18, 343, 10006, 10007, 10008, -10007,
        Integer.MIN_VALUE, Integer.MAX_VALUE};

    // The runs must be the same each time, so the numbers come from a plain sequence and not from a random source.
    private static long sequence = 20261115L;

    private static final Map<String, Integer> SEEN = new TreeMap<>();

    private static int below(int bound) {
        sequence = sequence * 6364136223846793005L + 1442695040888963407L;
        return (int) ((sequence >>> 33) % bound);
    }

    private static int mostly(int bound) {
        return below(12) == 0 || bound == 0 ? ODD_NUMBERS[below(ODD_NUMBERS.length)] : below(bound);
    }

    private static int anyNumber() {
        int number = below(4) == 0 ? ODD_NUMBERS[below(ODD_NUMBERS.length)] : below(20014) - 10007;
        return below(4) == 0 ? below(3) : number;
    }

    private static int[] arguments(String name, int count) {
        switch (name) {
            case "symbol": return new int[] {mostly(3)};
            case "number": return new int[] {anyNumber()};
            case "add": case "subtract": case "multiply": case "same":
                return new int[] {mostly(count), mostly(count)};
            case "power": return new int[] {mostly(count), mostly(7)};
            case "derive": case "degreeIn": return new int[] {mostly(count), mostly(3)};
            case "substitute": return new int[] {mostly(count), mostly(3), mostly(count)};
            case "degree": case "terms": return new int[] {mostly(count)};
            case "coefficient": return new int[] {mostly(count), mostly(343)};
            case "term": return new int[] {mostly(count), mostly(4)};
            case "value": return new int[] {mostly(count), anyNumber(), anyNumber(), anyNumber()};
            default: return new int[0];
        }
    }

    private static int compare(String run, SymbolicForms f, Model model, String name, int... arguments) {
        int want = model.call(name, arguments);
        int got = Calls.make(f, name, arguments);
        SEEN.merge(name + (want < 0 ? " " + want : " good"), 1, Integer::sum);
        if (got == want) {
            return 0;
        }
        System.out.println(run + ": " + name + Arrays.toString(arguments) + " answered " + got
            + ", due is " + want);
        return 1;
    }

    /** The coefficients are read where the terms are, as most of the 343 are 0 in most expressions. */
    private static int compareTerms(String run, SymbolicForms f, Model model, int x, int terms) {
        int wrong = compare(run, f, model, "terms", x);
        for (int i = 0; i < terms; i++) {
            int triple = model.call("term", new int[] {x, i});
            wrong += compare(run, f, model, "coefficient", x, triple);
        }
        return wrong;
    }

    private static int runMixedCalls(String run) {
        SymbolicForms f = new SymbolicForms();
        Model model = new Model();
        int wrong = 0;
        int calls = 0;
        while (calls < Calls.MOST_CALLS) {
            int count = model.call("expressions", new int[0]);
            String name = below(count == 16 ? 12 : 60) == 0 ? "clear" : NAMES[below(NAMES.length)];
            wrong += compare(run, f, model, name, arguments(name, count));
            calls++;
            boolean made = model.call("expressions", new int[0]) > count;
            int terms = made ? model.call("terms", new int[] {count}) : 0;
            if (made && calls + terms + 1 <= Calls.MOST_CALLS) {
                wrong += compareTerms(run, f, model, count, terms);
                calls += terms + 1;
            }
        }
        return wrong;
    }

    /** Two symbols come first, so that there is something to ask for, and clear now and then, once there is no room. */
    private static int runOneCall(String call) {
        String[] words = call.split(" ");
        int[] arguments = Arrays.stream(words).skip(1).mapToInt(Integer::parseInt).toArray();
        SymbolicForms f = new SymbolicForms();
        Model model = new Model();
        int wrong = 0;
        for (int calls = 0; calls < Calls.MOST_CALLS; calls++) {
            int count = model.call("expressions", new int[0]);
            if (count < 2) {
                wrong += compare(call, f, model, "symbol", count);
            } else if (count == 16 && calls % 4 == 0) {
                wrong += compare(call, f, model, "clear");
            } else {
                wrong += compare(call, f, model, words[0], arguments);
            }
        }
        return wrong;
    }

    private static int missing() {
        int missing = 0;
        for (String answer : ANSWERS_DUE) {
            int times = SEEN.getOrDefault(answer, 0);
            if (times < LEAST_SEEN) {
                missing++;
                System.out.println("seen only " + times + " times: " + answer);
            }
        }
        return missing;
    }

    public static void main(String[] args) {
        int wrong = 0;
        for (int object = 0; object < OBJECTS; object++) {
            wrong += runMixedCalls("object " + object);
        }
        wrong += missing();
        for (String call : REPEATED) {
            wrong += runOneCall(call);
        }
        System.out.println(wrong == 0 ? OBJECTS + REPEATED.length + " objects answered as due"
            : wrong + " things are not as due");
        if (wrong != 0) {
            System.exit(1);
        }
    }
}
