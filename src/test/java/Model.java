import java.util.ArrayList;
import java.util.HashSet;
import java.util.List;
import java.util.Map;
import java.util.TreeMap;

/**
 * What the document says, once more and in another way: polynomials are maps without a limit on exponents, so that
 * a degree that is too great is seen in the result itself and not reckoned beforehand.
 */
final class Model {
    private static final int MODULUS = 10007;

    private final List<TreeMap<List<Integer>, Integer>> made = new ArrayList<>();

    int call(String name, int[] v) {
        switch (name) {
            case "clear": return clear();
            case "symbol": return symbol(v[0]);
            case "number": return full() ? -2 : keep(constant(v[0]));
            case "add": return sum(v[0], v[1], 1);
            case "subtract": return sum(v[0], v[1], -1);
            case "multiply": return multiply(v[0], v[1]);
            case "power": return power(v[0], v[1]);
            case "derive": return derive(v[0], v[1]);
            case "substitute": return substitute(v[0], v[1], v[2]);
            case "expressions": return made.size();
            case "same": return !good(v[0]) || !good(v[1]) ? -1 : made.get(v[0]).equals(made.get(v[1])) ? 1 : 0;
            case "degree": return !good(v[0]) ? -2 : degree(made.get(v[0]));
            case "degreeIn": return degreeIn(v[0], v[1]);
            case "coefficient": return coefficient(v[0], v[1]);
            case "terms": return !good(v[0]) ? -1 : made.get(v[0]).size();
            case "term": return term(v[0], v[1]);
            case "value": return value(v[0], v[1], v[2], v[3]);
            case "kinds": return new HashSet<>(made).size();
            default: throw new IllegalArgumentException("no such call: " + name);
        }
    }

    private boolean good(int x) {
        return 0 <= x && x < made.size();
    }

    private static boolean goodSymbol(int s) {
        return s == 0 || s == 1 || s == 2;
    }

    private boolean full() {
        return made.size() == 16;
    }

    private int keep(TreeMap<List<Integer>, Integer> polynomial) {
        made.add(polynomial);
        return made.size() - 1;
    }

    private static int triple(List<Integer> exponents) {
        return 49 * exponents.get(0) + 7 * exponents.get(1) + exponents.get(2);
    }

    private static TreeMap<List<Integer>, Integer> zero() {
        return new TreeMap<>((x, y) -> Integer.compare(1000000 * x.get(0) + 1000 * x.get(1) + x.get(2),
            1000000 * y.get(0) + 1000 * y.get(1) + y.get(2)));
    }

    private static void addTerm(TreeMap<List<Integer>, Integer> to, List<Integer> exponents, long coefficient) {
        int sum = (int) Math.floorMod(to.getOrDefault(exponents, 0) + coefficient, (long) MODULUS);
        if (sum == 0) {
            to.remove(exponents);
        } else {
            to.put(exponents, sum);
        }
    }

    private static TreeMap<List<Integer>, Integer> constant(int value) {
        TreeMap<List<Integer>, Integer> result = zero();
        addTerm(result, List.of(0, 0, 0), value);
        return result;
    }

    private static TreeMap<List<Integer>, Integer> product(TreeMap<List<Integer>, Integer> x,
            TreeMap<List<Integer>, Integer> y) {
        TreeMap<List<Integer>, Integer> result = zero();
        for (Map.Entry<List<Integer>, Integer> m : x.entrySet()) {
            for (Map.Entry<List<Integer>, Integer> n : y.entrySet()) {
                List<Integer> p = m.getKey();
                List<Integer> q = n.getKey();
                addTerm(result, List.of(p.get(0) + q.get(0), p.get(1) + q.get(1), p.get(2) + q.get(2)),
                    (long) m.getValue() * n.getValue());
            }
        }
        return result;
    }

    private static int degree(TreeMap<List<Integer>, Integer> x) {
        return x.keySet().stream().mapToInt(e -> e.get(0) + e.get(1) + e.get(2)).max().orElse(-1);
    }

    private int clear() {
        int before = made.size();
        made.clear();
        return before;
    }

    private int symbol(int s) {
        if (!goodSymbol(s)) {
            return -1;
        }
        if (full()) {
            return -2;
        }
        TreeMap<List<Integer>, Integer> result = zero();
        addTerm(result, List.of(s == 0 ? 1 : 0, s == 1 ? 1 : 0, s == 2 ? 1 : 0), 1);
        return keep(result);
    }

    private int sum(int x, int y, int sign) {
        if (!good(x) || !good(y)) {
            return -1;
        }
        if (full()) {
            return -2;
        }
        TreeMap<List<Integer>, Integer> result = zero();
        made.get(x).forEach((e, k) -> addTerm(result, e, k));
        made.get(y).forEach((e, k) -> addTerm(result, e, (long) sign * k));
        return keep(result);
    }

    private int multiply(int x, int y) {
        if (!good(x) || !good(y)) {
            return -1;
        }
        if (full()) {
            return -2;
        }
        TreeMap<List<Integer>, Integer> result = product(made.get(x), made.get(y));
        return degree(result) > 6 ? -3 : keep(result);
    }

    private int power(int x, int n) {
        if (!good(x)) {
            return -1;
        }
        if (full()) {
            return -2;
        }
        if (n < 0 || n > 6) {
            return -4;
        }
        TreeMap<List<Integer>, Integer> result = constant(1);
        // Once it is too high it stays so: the modulus is prime, so nothing cancels. Going on would only be slow.
        for (int i = 0; i < n && degree(result) <= 6; i++) {
            result = product(made.get(x), result);
        }
        return degree(result) > 6 ? -3 : keep(result);
    }

    private int derive(int x, int s) {
        if (!good(x)) {
            return -1;
        }
        if (full()) {
            return -2;
        }
        if (!goodSymbol(s)) {
            return -4;
        }
        TreeMap<List<Integer>, Integer> result = zero();
        made.get(x).forEach((e, k) -> {
            if (e.get(s) > 0) {
                List<Integer> lower = new ArrayList<>(e);
                lower.set(s, e.get(s) - 1);
                addTerm(result, lower, (long) k * e.get(s));
            }
        });
        return keep(result);
    }

    private int substitute(int x, int s, int y) {
        if (!good(x) || !good(y)) {
            return -1;
        }
        if (full()) {
            return -2;
        }
        if (!goodSymbol(s)) {
            return -4;
        }
        TreeMap<List<Integer>, Integer> result = zero();
        for (Map.Entry<List<Integer>, Integer> m : made.get(x).entrySet()) {
            List<Integer> others = new ArrayList<>(m.getKey());
            int exponent = others.set(s, 0);
            int counted = exponent == 0 ? 0 : exponent * degree(made.get(y));
            if (others.get(0) + others.get(1) + others.get(2) + counted > 6) {
                return -3;
            }
            TreeMap<List<Integer>, Integer> part = zero();
            addTerm(part, others, m.getValue());
            for (int i = 0; i < exponent; i++) {
                part = product(part, made.get(y));
            }
            part.forEach((e, k) -> addTerm(result, e, k));
        }
        return degree(result) > 6 ? -3 : keep(result);
    }

    private int degreeIn(int x, int s) {
        if (!good(x)) {
            return -2;
        }
        if (!goodSymbol(s)) {
            return -3;
        }
        return made.get(x).keySet().stream().mapToInt(e -> e.get(s)).max().orElse(-1);
    }

    private int coefficient(int x, int t) {
        if (!good(x)) {
            return -1;
        }
        if (t < 0 || t > 342) {
            return -2;
        }
        return made.get(x).getOrDefault(List.of(t / 49, t / 7 % 7, t % 7), 0);
    }

    private int term(int x, int i) {
        if (!good(x)) {
            return -1;
        }
        List<Integer> triples = new ArrayList<>();
        made.get(x).keySet().forEach(e -> triples.add(0, triple(e)));
        return i < 0 || i >= triples.size() ? -2 : triples.get(i);
    }

    private int value(int x, int a, int b, int c) {
        if (!good(x)) {
            return -1;
        }
        long sum = 0;
        long[] values = {Math.floorMod(a, MODULUS), Math.floorMod(b, MODULUS), Math.floorMod(c, MODULUS)};
        for (Map.Entry<List<Integer>, Integer> m : made.get(x).entrySet()) {
            long product = m.getValue();
            for (int s = 0; s < 3; s++) {
                for (int i = 0; i < m.getKey().get(s); i++) {
                    product = product * values[s] % MODULUS;
                }
            }
            sum += product;
        }
        return (int) (sum % MODULUS);
    }
}
