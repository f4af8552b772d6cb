/** Expressions over three symbols that are kept in one normal form. */
public final class SymbolicForms {
    private static final int MODULUS = 10007;
    private static final int MINUS_ONE = MODULUS - 1;
    private static final int MOST_EXPRESSIONS = 16;
    private static final int HIGHEST_DEGREE = 6;
    private static final int HIGHEST_POWER = 6;
    private static final int EXPONENTS = 7;
    private static final int TRIPLES = 343;
    private static final int A_TRIPLE = 49;
    private static final int B_TRIPLE = 7;
    private static final int C_TRIPLE = 1;

    // Two slots beyond the expressions serve as working room, as no method may make an array.
    private static final int PRODUCT_SLOT = MOST_EXPRESSIONS;
    private static final int POWER_SLOT = MOST_EXPRESSIONS + 1;
    private static final int CELLS = (MOST_EXPRESSIONS + 2) * TRIPLES;

    // Cell s * TRIPLES + t holds the coefficient of slot s for the exponent triple t, always 0 .. 10006,
    // so that two slots stand for the same polynomial just when their cells are equal.
    private final int[] cells = new int[CELLS];

    // Slots 0 .. count - 1 are the expressions; slot count is free to be written until it is kept.
    private int count = 0;

    public SymbolicForms() {
    }

    public int clear() {
        int before = count;
        count = 0;
        return before;
    }

    public int symbol(int symbol) {
        if (!isSymbol(symbol)) {
            return -1;
        }
        if (isFull()) {
            return -2;
        }
        int triple = tripleOfSymbol(symbol);
        setToTerm(count, 1, triple);
        return keepNewest();
    }

    public int number(int value) {
        if (isFull()) {
            return -2;
        }
        int constant = residue(value);
        setToTerm(count, constant, 0);
        return keepNewest();
    }

    public int add(int x, int y) {
        return makeSum(x, y, 1);
    }

    public int subtract(int x, int y) {
        return makeSum(x, y, MINUS_ONE);
    }

    public int multiply(int x, int y) {
        if (!isExpression(x) || !isExpression(y)) {
            return -1;
        }
        if (isFull()) {
            return -2;
        }
        // The modulus is prime, so degrees add up; the -1 of the polynomial 0 never makes the sum too great.
        if (highestDegree(x) + highestDegree(y) > HIGHEST_DEGREE) {
            return -3;
        }
        setToProduct(count, x, y);
        return keepNewest();
    }

    public int power(int x, int n) {
        if (!isExpression(x)) {
            return -1;
        }
        if (isFull()) {
            return -2;
        }
        if (n < 0 || n > HIGHEST_POWER) {
            return -4;
        }
        if (highestDegree(x) * n > HIGHEST_DEGREE) {
            return -3;
        }
        setToTerm(count, 1, 0);
        for (int i = 0; i < n; i++) {
            multiplySlotBy(count, x);
        }
        return keepNewest();
    }

    public int derive(int x, int symbol) {
        if (!isExpression(x)) {
            return -1;
        }
        if (isFull()) {
            return -2;
        }
        if (!isSymbol(symbol)) {
            return -4;
        }
        setToDerivative(count, x, symbol);
        return keepNewest();
    }

    public int substitute(int x, int symbol, int y) {
        if (!isExpression(x) || !isExpression(y)) {
            return -1;
        }
        if (isFull()) {
            return -2;
        }
        if (!isSymbol(symbol)) {
            return -4;
        }
        if (substitutionIsTooHigh(x, symbol, y)) {
            return -3;
        }
        setToSubstitution(count, x, symbol, y);
        return keepNewest();
    }

    public int expressions() {
        return count;
    }

    public int same(int x, int y) {
        if (!isExpression(x) || !isExpression(y)) {
            return -1;
        }
        return slotsAreEqual(x, y) ? 1 : 0;
    }

    public int degree(int x) {
        if (!isExpression(x)) {
            return -2;
        }
        return highestDegree(x);
    }

    public int degreeIn(int x, int symbol) {
        if (!isExpression(x)) {
            return -2;
        }
        if (!isSymbol(symbol)) {
            return -3;
        }
        return highestExponent(x, symbol);
    }

    public int coefficient(int x, int triple) {
        if (!isExpression(x)) {
            return -1;
        }
        if (triple < 0 || triple >= TRIPLES) {
            return -2;
        }
        return cells[x * TRIPLES + triple];
    }

    public int terms(int x) {
        if (!isExpression(x)) {
            return -1;
        }
        int found = 0;
        for (int triple = 0; triple < TRIPLES; triple++) {
            if (cells[x * TRIPLES + triple] != 0) {
                found++;
            }
        }
        return found;
    }

    public int term(int x, int i) {
        if (!isExpression(x)) {
            return -1;
        }
        int passed = 0;
        for (int triple = TRIPLES - 1; triple >= 0; triple--) {
            if (cells[x * TRIPLES + triple] != 0) {
                if (passed == i) {
                    return triple;
                }
                passed++;
            }
        }
        return -2;
    }

    public int value(int x, int a, int b, int c) {
        if (!isExpression(x)) {
            return -1;
        }
        int aResidue = residue(a);
        int bResidue = residue(b);
        int cResidue = residue(c);
        int sum = 0;
        for (int triple = 0; triple < TRIPLES; triple++) {
            int product = cells[x * TRIPLES + triple];
            if (product != 0) {
                int p = exponentOf(0, triple);
                int q = exponentOf(1, triple);
                int r = exponentOf(2, triple);
                product = timesPower(product, aResidue, p);
                product = timesPower(product, bResidue, q);
                product = timesPower(product, cResidue, r);
                sum = (sum + product) % MODULUS;
            }
        }
        return sum;
    }

    public int kinds() {
        int different = 0;
        for (int x = 0; x < count; x++) {
            if (!hasEarlierEqual(x)) {
                different++;
            }
        }
        return different;
    }

    private boolean isExpression(int x) {
        return x >= 0 && x < count;
    }

    private boolean isFull() {
        return count >= MOST_EXPRESSIONS;
    }

    private int keepNewest() {
        int made = count;
        count++;
        return made;
    }

    private int makeSum(int x, int y, int factor) {
        if (!isExpression(x) || !isExpression(y)) {
            return -1;
        }
        if (isFull()) {
            return -2;
        }
        setToZero(count);
        addMultiple(count, x, 1, 0);
        addMultiple(count, y, factor, 0);
        return keepNewest();
    }

    private void setToZero(int slot) {
        for (int triple = 0; triple < TRIPLES; triple++) {
            cells[slot * TRIPLES + triple] = 0;
        }
    }

    private void setToTerm(int slot, int coefficient, int triple) {
        setToZero(slot);
        cells[slot * TRIPLES + triple] = coefficient;
    }

    // Adds factor times the monomial of shift times source. As no degree here is greater than 6, no sum of
    // two exponents is either: triples are added like plain numbers, without a carry between exponents.
    private void addMultiple(int target, int source, int factor, int shift) {
        for (int triple = 0; triple < TRIPLES - shift; triple++) {
            int coefficient = cells[source * TRIPLES + triple];
            if (coefficient != 0) {
                int cell = target * TRIPLES + triple + shift;
                cells[cell] = (cells[cell] + factor * coefficient) % MODULUS;
            }
        }
    }

    private void setToProduct(int target, int x, int y) {
        setToZero(target);
        for (int triple = 0; triple < TRIPLES; triple++) {
            int coefficient = cells[x * TRIPLES + triple];
            if (coefficient != 0) {
                addMultiple(target, y, coefficient, triple);
            }
        }
    }

    private void multiplySlotBy(int slot, int y) {
        setToProduct(PRODUCT_SLOT, slot, y);
        setToZero(slot);
        addMultiple(slot, PRODUCT_SLOT, 1, 0);
    }

    private void setToDerivative(int target, int x, int symbol) {
        int step = tripleOfSymbol(symbol);
        setToZero(target);
        for (int triple = step; triple < TRIPLES; triple++) {
            int exponent = exponentOf(symbol, triple);
            if (exponent > 0) {
                int coefficient = cells[x * TRIPLES + triple];
                cells[target * TRIPLES + triple - step] = coefficient * exponent % MODULUS;
            }
        }
    }

    // A result of too great a degree needs no test of its own: its highest term comes out of some term of x
    // that is itself too high by the rule for single terms.
    private boolean substitutionIsTooHigh(int x, int symbol, int y) {
        int yDegree = highestDegree(y);
        for (int triple = 0; triple < TRIPLES; triple++) {
            if (cells[x * TRIPLES + triple] != 0) {
                int exponent = exponentOf(symbol, triple);
                int others = degreeOfTriple(triple) - exponent;
                if (others + exponent * yDegree > HIGHEST_DEGREE) {
                    return true;
                }
            }
        }
        return false;
    }

    private void setToSubstitution(int target, int x, int symbol, int y) {
        int highest = highestExponent(x, symbol);
        setToZero(target);
        setToTerm(POWER_SLOT, 1, 0);
        // No power beyond the highest that x needs is made: its degree could be greater than 6.
        for (int exponent = 0; exponent <= highest; exponent++) {
            if (exponent > 0) {
                multiplySlotBy(POWER_SLOT, y);
            }
            addTermsWithExponent(target, x, symbol, exponent);
        }
    }

    private void addTermsWithExponent(int target, int x, int symbol, int exponent) {
        int symbolPart = exponent * tripleOfSymbol(symbol);
        for (int triple = symbolPart; triple < TRIPLES; triple++) {
            int coefficient = cells[x * TRIPLES + triple];
            if (coefficient != 0 && exponentOf(symbol, triple) == exponent) {
                addMultiple(target, POWER_SLOT, coefficient, triple - symbolPart);
            }
        }
    }

    private int highestDegree(int x) {
        int highest = -1;
        for (int triple = 0; triple < TRIPLES; triple++) {
            if (cells[x * TRIPLES + triple] != 0) {
                int degree = degreeOfTriple(triple);
                highest = degree > highest ? degree : highest;
            }
        }
        return highest;
    }

    private int highestExponent(int x, int symbol) {
        int highest = -1;
        for (int triple = 0; triple < TRIPLES; triple++) {
            if (cells[x * TRIPLES + triple] != 0) {
                int exponent = exponentOf(symbol, triple);
                highest = exponent > highest ? exponent : highest;
            }
        }
        return highest;
    }

    private boolean slotsAreEqual(int x, int y) {
        for (int triple = 0; triple < TRIPLES; triple++) {
            if (cells[x * TRIPLES + triple] != cells[y * TRIPLES + triple]) {
                return false;
            }
        }
        return true;
    }

    private boolean hasEarlierEqual(int x) {
        for (int earlier = 0; earlier < x; earlier++) {
            if (slotsAreEqual(earlier, x)) {
                return true;
            }
        }
        return false;
    }

    private static boolean isSymbol(int symbol) {
        return symbol >= 0 && symbol <= 2;
    }

    private static int tripleOfSymbol(int symbol) {
        if (symbol == 0) {
            return A_TRIPLE;
        }
        return symbol == 1 ? B_TRIPLE : C_TRIPLE;
    }

    private static int exponentOf(int symbol, int triple) {
        if (symbol == 0) {
            return triple / A_TRIPLE;
        }
        return symbol == 1 ? triple / B_TRIPLE % EXPONENTS : triple % EXPONENTS;
    }

    private static int degreeOfTriple(int triple) {
        int p = exponentOf(0, triple);
        int q = exponentOf(1, triple);
        int r = exponentOf(2, triple);
        return p + q + r;
    }

    private static int residue(int value) {
        int remainder = value % MODULUS;
        return remainder < 0 ? remainder + MODULUS : remainder;
    }

    private static int timesPower(int product, int base, int exponent) {
        int result = product;
        for (int i = 0; i < exponent; i++) {
            result = result * base % MODULUS;
        }
        return result;
    }
}
