import java.util.Arrays;
import java.util.Map;
import java.util.TreeMap;

/** Long runs of mixed calls, each object used for all the 512 calls it is promised for, against the model. */
public final class ModelTest {
    private static final int OBJECTS = 600;

    /** Each kind of answer that a call can give must turn up this often, or the runs would prove little. */
    private static final int LEAST_SEEN = 20;

    private static final String[] NAMES = {"symbol", "symbol", "number", "number", "add", "add", "add", "subtract",
        "subtract", "multiply", "multiply", "multiply", "power", "power", "power", "derive", "derive", "substitute",
        "substitute", "substitute", "expressions", "same", "degree", "degreeIn", "coefficient", "terms", "term",
        "value", "kinds"};

    private static final String[] ANSWERS_DUE = {"clear good", "symbol good", "symbol -1", "symbol -2",
        "number good", "number -2", "add good", "add -1", "add -2", "subtract good", "subtract -1", "subtract -2",
        "multiply good", "multiply -1", "multiply -2", "multiply -3", "power good", "power -1", "power -2",
        "power -3", "power -4", "derive good", "derive -1", "derive -2", "derive -4", "substitute good",
        "substitute -1", "substitute -2", "substitute -3", "substitute -4", "expressions good", "same good",
        "same -1", "degree good", "degree -1", "degree -2", "degreeIn good", "degreeIn -1", "degreeIn -2",
        "degreeIn -3", "coefficient good", "coefficient -1", "coefficient -2", "terms good", "terms -1",
        "term good", "term -1", "term -2", "value good", "value -1", "kinds good"};

    private static final int[] ODD_NUMBERS = {-1, -2, 3, 7, 16, 17, 18, 343, 10006, 10007, 10008, -10007,
        Integer.MIN_VALUE, Integer.MAX_VALUE};

    // The runs must be the same each time, so the numbers come from a plain sequence and not from a random source.
    private static long sequence = 20261115L;

    private static final Map<String, Integer> SEEN = new TreeMap<>();

    private static int below(int bound) {
        sequence = sequence * 6364136223846793005L + 1442695040888963407L;
        return (int) ((sequence >>> 33) % bound);
    }

    private static int mostly(int bound) {
        return below(12) == 0 || bound == 0 ? ODD_NUMBERS[below(ODD_NUMBERS.length)] : below(bound);
    }

    private static int anyNumber() {
        int number = below(4) == 0 ? ODD_NUMBERS[below(ODD_NUMBERS.length)] : below(20014) - 10007;
        return below(4) == 0 ? below(3) : number;
    }

    private static int[] arguments(String name, int count) {
        switch (name) {
            case "symbol": return new int[] {mostly(3)};
            case "number": return new int[] {anyNumber()};
            case "add": case "subtract": case "multiply": case "same":
                return new int[] {mostly(count), mostly(count)};
            case "power": return new int[] {mostly(count), mostly(7)};
            case "derive": case "degreeIn": return new int[] {mostly(count), mostly(3)};
            case "substitute": return new int[] {mostly(count), mostly(3), mostly(count)};
            case "degree": case "terms": return new int[] {mostly(count)};
            case "coefficient": return new int[] {mostly(count), mostly(343)};
            case "term": return new int[] {mostly(count), mostly(4)};
            case "value": return new int[] {mostly(count), anyNumber(), anyNumber(), anyNumber()};
            default: return new int[0];
        }
    }

    private static int compare(int object, SymbolicForms f, Model model, String name, int... arguments) {
        int want = model.call(name, arguments);
        int got = Calls.make(f, name, arguments);
        SEEN.merge(name + (want < 0 ? " " + want : " good"), 1, Integer::sum);
        if (got == want) {
            return 0;
        }
        System.out.println("object " + object + ": " + name + Arrays.toString(arguments) + " answered " + got
            + ", due is " + want);
        return 1;
    }

    /** The coefficients are read where the terms are, as most of the 343 are 0 in most expressions. */
    private static int compareTerms(int object, SymbolicForms f, Model model, int x, int terms) {
        int wrong = compare(object, f, model, "terms", x);
        for (int i = 0; i < terms; i++) {
            int triple = model.call("term", new int[] {x, i});
            wrong += compare(object, f, model, "coefficient", x, triple);
        }
        return wrong;
    }

    private static int runObject(int object) {
        SymbolicForms f = new SymbolicForms();
        Model model = new Model();
        int wrong = 0;
        int calls = 0;
        while (calls < Calls.MOST_CALLS) {
            int count = model.call("expressions", new int[0]);
            String name = below(count == 16 ? 12 : 60) == 0 ? "clear" : NAMES[below(NAMES.length)];
            wrong += compare(object, f, model, name, arguments(name, count));
            calls++;
            boolean made = model.call("expressions", new int[0]) > count;
            int terms = made ? model.call("terms", new int[] {count}) : 0;
            if (made && calls + terms + 1 <= Calls.MOST_CALLS) {
                wrong += compareTerms(object, f, model, count, terms);
                calls += terms + 1;
            }
        }
        return wrong;
    }

    private static int missing() {
        int missing = 0;
        for (String answer : ANSWERS_DUE) {
            int times = SEEN.getOrDefault(answer, 0);
            if (times < LEAST_SEEN) {
                missing++;
                System.out.println("seen only " + times + " times: " + answer);
            }
        }
        return missing;
    }

    public static void main(String[] args) {
        int wrong = 0;
        for (int object = 0; object < OBJECTS; object++) {
            wrong += runObject(object);
        }
        wrong += missing();
        System.out.println(wrong == 0 ? OBJECTS + " objects answered as due" : wrong + " things are not as due");
        if (wrong != 0) {
            System.exit(1);
        }
    }
}
