import java.util.ArrayList;
import java.util.Arrays;
import java.util.LinkedHashMap;
import java.util.List;
import java.util.Map;

/**
 * No call throws, whatever its arguments and however many calls came before it (rule 7 of LANGUAGE.md). The answers
 * are not looked at here: after the 512th call the document leaves them free.
 */
public final class NoThrowTest {
    private static final int[] ARGUMENTS = {Integer.MIN_VALUE, -10007, -343, -1, 0, 1, 2, 3, 6, 7, 15, 16, 17, 18, 342,
        343, 10007, Integer.MAX_VALUE};

    // value takes any numbers for the symbols, so fewer of them do.
    private static final int[] VALUES = {Integer.MIN_VALUE, -1, 0, 10006, Integer.MAX_VALUE};

    private static final Map<String, Integer> PARAMETERS = new LinkedHashMap<>();

    static {
        List.of("clear", "expressions", "kinds").forEach(name -> PARAMETERS.put(name, 0));
        List.of("symbol", "number", "degree", "terms").forEach(name -> PARAMETERS.put(name, 1));
        List.of("add", "subtract", "multiply", "power", "derive", "same", "degreeIn", "coefficient", "term")
            .forEach(name -> PARAMETERS.put(name, 2));
        PARAMETERS.put("substitute", 3);
        PARAMETERS.put("value", 4);
    }

    private static int wrong = 0;

    private static List<int[]> argumentLists(String name) {
        List<int[]> lists = List.of(new int[0]);
        for (int place = 0; place < PARAMETERS.get(name); place++) {
            List<int[]> longer = new ArrayList<>();
            for (int[] list : lists) {
                for (int argument : name.equals("value") && place > 0 ? VALUES : ARGUMENTS) {
                    int[] copy = Arrays.copyOf(list, place + 1);
                    copy[place] = argument;
                    longer.add(copy);
                }
            }
            lists = longer;
        }
        return lists;
    }

    /** 16 expressions, of each degree and with as many terms as there can be, and as many of them as are wanted. */
    private static SymbolicForms objectWith(int expressions) {
        String[] steps = {"symbol 0", "symbol 1", "symbol 2", "number 0", "number -1", "add 0 1", "add 2 4", "add 5 6",
            "power 7 6", "power 7 5", "power 7 4", "power 7 3", "power 7 2", "power 0 6", "power 1 6", "power 2 6"};
        SymbolicForms f = new SymbolicForms();
        for (int i = 0; i < expressions; i++) {
            String[] words = steps[i].split(" ");
            int[] arguments = Arrays.stream(words).skip(1).mapToInt(Integer::parseInt).toArray();
            Calls.make(f, words[0], arguments);
        }
        return f;
    }

    private static void make(SymbolicForms f, String name, int[] arguments, String when) {
        try {
            Calls.make(f, name, arguments);
        } catch (RuntimeException | StackOverflowError thrown) {
            wrong++;
            System.out.println(name + Arrays.toString(arguments) + " " + when + ": " + thrown);
        }
    }

    private static void onNewObjects(int expressions) {
        for (String name : PARAMETERS.keySet()) {
            for (int[] arguments : argumentLists(name)) {
                make(objectWith(expressions), name, arguments, "with " + expressions + " expressions");
            }
        }
    }

    // The calls that clear or make come last, so that the questions are asked of the expressions that were wanted.
    private static void onOneObject(int expressions) {
        SymbolicForms f = objectWith(expressions);
        for (int round = 0; round < 2; round++) {
            for (String name : PARAMETERS.keySet()) {
                boolean asks = !Calls.isMaker(name) && !name.equals("clear");
                if (asks == (round == 0)) {
                    argumentLists(name).forEach(list -> make(f, name, list, "after many calls"));
                }
            }
        }
    }

    public static void main(String[] args) {
        for (int expressions : new int[] {0, 1, 9, 15, 16}) {
            onNewObjects(expressions);
            onOneObject(expressions);
        }
        System.out.println(wrong == 0 ? "no call throws" : wrong + " calls throw");
        if (wrong != 0) {
            System.exit(1);
        }
    }
}
