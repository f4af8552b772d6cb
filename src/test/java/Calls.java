import java.util.Set;

/** Makes a call that is told by its name, so that tests can hold calls as data. */
final class Calls {
    static final int MOST_CALLS = 512;

    private static final Set<String> MAKERS = Set.of("symbol", "number", "add", "subtract", "multiply", "power",
        "derive", "substitute");

    private Calls() {
    }

    static boolean isMaker(String name) {
        return MAKERS.contains(name);
    }

    static int make(SymbolicForms f, String name, int[] v) {
        switch (name) {
            case "clear": return f.clear();
            case "symbol": return f.symbol(v[0]);
            case "number": return f.number(v[0]);
            case "add": return f.add(v[0], v[1]);
            case "subtract": return f.subtract(v[0], v[1]);
            case "multiply": return f.multiply(v[0], v[1]);
            case "power": return f.power(v[0], v[1]);
            case "derive": return f.derive(v[0], v[1]);
            case "substitute": return f.substitute(v[0], v[1], v[2]);
            case "expressions": return f.expressions();
            case "same": return f.same(v[0], v[1]);
            case "degree": return f.degree(v[0]);
            case "degreeIn": return f.degreeIn(v[0], v[1]);
            case "coefficient": return f.coefficient(v[0], v[1]);
            case "terms": return f.terms(v[0]);
            case "term": return f.term(v[0], v[1]);
            case "value": return f.value(v[0], v[1], v[2], v[3]);
            case "kinds": return f.kinds();
            default: throw new IllegalArgumentException("no such call: " + name);
        }
    }
}
