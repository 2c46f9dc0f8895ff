import java.util.Arrays;

/** A desk for polynomials in three variables over the numbers modulo a prime. */
public final class PolynomialHeap {
    public static final int NONE = -1;

    private static final int REGISTERS = 12;
    private static final int VARIABLES = 3;
    private static final int GREATEST_BOUND = 12;
    private static final int GREATEST_POWER = 100;
    private static final int GREATEST_SQUARE = 8;

    private final Field field;
    private final Sheet sheet;
    private final PowerTable powers;
    private final Polynomial[] registers = new Polynomial[REGISTERS];
    // Minor c is the determinant of the first rows and of those columns that are bits of c.
    private final Polynomial[] minors = new Polynomial[1 << GREATEST_SQUARE];
    private Polynomial spare;
    private int refusals;

    public PolynomialHeap(int least) {
        field = new Field(least);
        sheet = new Sheet(field);
        powers = new PowerTable(field);
        for (int r = 0; r < registers.length; r++) {
            registers[r] = new Polynomial();
        }
        for (int c = 0; c < minors.length; c++) {
            minors[c] = new Polynomial();
        }
        spare = new Polynomial();
    }

    public void constant(int r, int c) throws IndexOutOfBoundsException {
        checkRegister(r);
        registers[r].becomeNumber(field.reduced(c));
    }

    public void variable(int r, int v) throws IndexOutOfBoundsException, IllegalArgumentException {
        checkRegister(r);
        checkVariable(v);
        registers[r].clear();
        registers[r].append(Monomial.ofVariable(v), 1);
    }

    public void add(int r, int a, int b, int m) throws IndexOutOfBoundsException {
        checkRegisters(r, a, b);
        sheet.addMultiple(registers[a], 1, Monomial.ONE);
        sheet.addMultiple(registers[b], field.reduced(m), Monomial.ONE);
        sheet.moveTo(registers[r]);
    }

    public boolean multiply(int r, int a, int b) throws IndexOutOfBoundsException {
        checkRegisters(r, a, b);
        Polynomial left = registers[a];
        Polynomial right = registers[b];
        for (int u = 0; u < VARIABLES; u++) {
            if (left.degreeIn(u) + right.degreeIn(u) > GREATEST_BOUND) {
                return refuse();
            }
        }
        sheet.addProduct(left, right);
        sheet.moveTo(registers[r]);
        return true;
    }

    public boolean power(int r, int a, int n) throws IndexOutOfBoundsException, IllegalArgumentException {
        checkRegister(r);
        checkRegister(a);
        if (n < 0 || n > GREATEST_POWER) {
            throw new IllegalArgumentException();
        }
        Polynomial base = registers[a];
        for (int u = 0; u < VARIABLES; u++) {
            if (n * base.degreeIn(u) > GREATEST_BOUND) {
                return refuse();
            }
        }
        spare.becomeNumber(1);
        for (int i = 0; i < n; i++) {
            sheet.addProduct(spare, base);
            sheet.moveTo(spare);
        }
        exchangeSpare(r);
        return true;
    }

    public void divide(int r, int a, int b, boolean quotient)
            throws IndexOutOfBoundsException, IllegalArgumentException {
        checkRegisters(r, a, b);
        Polynomial divisor = registers[b];
        if (divisor.isZero()) {
            throw new IllegalArgumentException();
        }
        sheet.addMultiple(registers[a], 1, Monomial.ONE);
        sheet.divideBy(divisor, spare);
        if (quotient) {
            sheet.clear();
            exchangeSpare(r);
        } else {
            sheet.moveTo(registers[r]);
        }
    }

    public void derive(int r, int a, int v) throws IndexOutOfBoundsException, IllegalArgumentException {
        checkRegister(r);
        checkRegister(a);
        checkVariable(v);
        Polynomial source = registers[a];
        spare.clear();
        for (int i = 0; i < source.size; i++) {
            int monomial = source.monomials[i];
            int factor = field.reduced(Monomial.exponent(monomial, v));
            if (factor != 0) {
                // One variable less keeps the order of the terms, and modulo a prime no product becomes 0.
                spare.append(monomial - Monomial.ofVariable(v), field.product(factor, source.coefficients[i]));
            }
        }
        exchangeSpare(r);
    }

    public boolean put(int r, int a, int v, int b) throws IndexOutOfBoundsException, IllegalArgumentException {
        checkRegisters(r, a, b);
        checkVariable(v);
        Polynomial outer = registers[a];
        Polynomial inner = registers[b];
        int outerDegree = outer.degreeIn(v);
        for (int u = 0; u < VARIABLES; u++) {
            int kept = u == v ? 0 : outer.degreeIn(u);
            if (kept + outerDegree * inner.degreeIn(u) > GREATEST_BOUND) {
                return refuse();
            }
        }
        spare.clear();
        // Horner's way: no step on the way has a degree above the bound of the whole.
        for (int e = outerDegree; e >= 0; e--) {
            sheet.addProduct(spare, inner);
            sheet.addCoefficientOf(outer, v, e);
            sheet.moveTo(spare);
        }
        exchangeSpare(r);
        return true;
    }

    public boolean resultant(int r, int a, int b, int v) throws IndexOutOfBoundsException, IllegalArgumentException {
        checkRegisters(r, a, b);
        checkVariable(v);
        Polynomial first = registers[a];
        Polynomial second = registers[b];
        int m = first.degreeIn(v);
        int n = second.degreeIn(v);
        if (first.isZero() || second.isZero() || m + n > GREATEST_SQUARE) {
            throw new IllegalArgumentException();
        }
        for (int u = 0; u < VARIABLES; u++) {
            if (u != v && n * first.degreeIn(u) + m * second.degreeIn(u) > GREATEST_BOUND) {
                return refuse();
            }
        }
        int allColumns = (1 << (m + n)) - 1;
        minors[0].becomeNumber(1);
        for (int columns = 1; columns <= allColumns; columns++) {
            int row = Integer.bitCount(columns) - 1;
            if (row < n) {
                addExpansion(columns, first, row + m, v);
            } else {
                // The rows of the second begin anew in the first column: (row - n) + n.
                addExpansion(columns, second, row, v);
            }
            sheet.moveTo(minors[columns]);
        }
        sheet.addMultiple(minors[allColumns], 1, Monomial.ONE);
        sheet.moveTo(registers[r]);
        return true;
    }

    public int value(int a, int x0, int x1, int x2) throws IndexOutOfBoundsException {
        checkRegister(a);
        powers.fillRow(0, field.reduced(x0));
        powers.fillRow(1, field.reduced(x1));
        powers.fillRow(2, field.reduced(x2));
        Polynomial source = registers[a];
        int sum = 0;
        for (int i = 0; i < source.size; i++) {
            sum = field.sumWithProduct(sum, source.coefficients[i], powers.at(source.monomials[i]));
        }
        return sum;
    }

    public int terms(int a) throws IndexOutOfBoundsException {
        checkRegister(a);
        return registers[a].size;
    }

    public int term(int a, int i, int what) throws IndexOutOfBoundsException, IllegalArgumentException {
        checkRegister(a);
        Polynomial source = registers[a];
        if (i < 0 || i >= source.size) {
            throw new IndexOutOfBoundsException();
        }
        if (what < 0 || what > VARIABLES) {
            throw new IllegalArgumentException();
        }
        return what == 0 ? source.coefficients[i] : Monomial.exponent(source.monomials[i], what - 1);
    }

    public int coefficient(int a, int e0, int e1, int e2) throws IndexOutOfBoundsException, IllegalArgumentException {
        checkRegister(a);
        if (e0 < 0 || e1 < 0 || e2 < 0) {
            throw new IllegalArgumentException();
        }
        if (!Monomial.exists(e0, e1, e2)) {
            return 0;
        }
        return registers[a].coefficientOf(Monomial.of(e0, e1, e2));
    }

    public int degree(int a, int v) throws IndexOutOfBoundsException, IllegalArgumentException {
        checkRegister(a);
        checkVariable(v);
        return registers[a].degreeIn(v);
    }

    public boolean isSame(int a, int b) throws IndexOutOfBoundsException {
        checkRegister(a);
        checkRegister(b);
        return registers[a].matches(registers[b]);
    }

    public int count(int what) {
        switch (what) {
            case 0:
                return field.prime;
            case 1:
                return allTerms();
            case 2:
                return zeroRegisters();
            case 3:
                return greatestDegree();
            case 4:
                return refusals;
            default:
                return NONE;
        }
    }

    private static void checkRegister(int r) {
        if (r < 0 || r >= REGISTERS) {
            throw new IndexOutOfBoundsException();
        }
    }

    private static void checkRegisters(int r, int a, int b) {
        checkRegister(r);
        checkRegister(a);
        checkRegister(b);
    }

    private static void checkVariable(int v) {
        if (v < 0 || v >= VARIABLES) {
            throw new IllegalArgumentException();
        }
    }

    private boolean refuse() {
        refusals++;
        return false;
    }

    /** The result was made beside the registers, as a register that is read may be the one that is written. */
    private void exchangeSpare(int r) {
        Polynomial old = registers[r];
        registers[r] = spare;
        spare = old;
    }

    /**
     * Adds to the sheet the minor of some columns, expanded along its last row: that row has the coefficients of v
     * in a polynomial, the one without v standing in lastColumn.
     */
    private void addExpansion(int columns, Polynomial row, int lastColumn, int v) {
        for (int i = 0; i < row.size; i++) {
            int monomial = row.monomials[i];
            int column = lastColumn - Monomial.exponent(monomial, v);
            if ((columns >> column & 1) != 0) {
                int columnsBehind = Integer.bitCount(columns >> column) - 1;
                int entry = row.coefficients[i];
                int factor = columnsBehind % 2 == 0 ? entry : field.negative(entry);
                sheet.addMultiple(minors[columns ^ 1 << column], factor, Monomial.without(monomial, v));
            }
        }
    }

    private int allTerms() {
        int sum = 0;
        for (int r = 0; r < REGISTERS; r++) {
            sum += registers[r].size;
        }
        return sum;
    }

    private int zeroRegisters() {
        int sum = 0;
        for (int r = 0; r < REGISTERS; r++) {
            if (registers[r].isZero()) {
                sum++;
            }
        }
        return sum;
    }

    private int greatestDegree() {
        int greatest = 0;
        for (int r = 0; r < REGISTERS; r++) {
            for (int v = 0; v < VARIABLES; v++) {
                greatest = Math.max(greatest, registers[r].degreeIn(v));
            }
        }
        return greatest;
    }

    /** The numbers modulo a prime. */
    private static final class Field {
        // The greatest prime whose square fits an int: then (p - 1) * (p - 1) + (p - 1) fits, too.
        private static final int GREATEST_PRIME = 46337;

        final int prime;

        Field(int least) {
            prime = leastPrime(least);
        }

        private static int leastPrime(int least) {
            for (int n = Math.max(least, 2); n < GREATEST_PRIME; n++) {
                if (isPrime(n)) {
                    return n;
                }
            }
            return GREATEST_PRIME;
        }

        private static boolean isPrime(int n) {
            for (int d = 2; d * d <= n; d++) {
                if (n % d == 0) {
                    return false;
                }
            }
            return true;
        }

        int reduced(int number) {
            return Math.floorMod(number, prime);
        }

        int product(int x, int y) {
            return x * y % prime;
        }

        int sumWithProduct(int sum, int x, int y) {
            return (sum + x * y) % prime;
        }

        int negative(int x) {
            return x == 0 ? 0 : prime - x;
        }

        /** By Fermat: x to the power of p - 2. */
        int inverse(int x) {
            int result = 1;
            int square = x;
            for (int e = prime - 2; e > 0; e >>= 1) {
                if ((e & 1) != 0) {
                    result = product(result, square);
                }
                square = product(square, square);
            }
            return result;
        }
    }

    /**
     * Monomials as ints: from the top the sum of the exponents, e0, e1, e2, six bits each. So the higher monomial is
     * the greater int, and the product of two is their sum.
     */
    private static final class Monomial {
        static final int ONE = 0;

        // Bounds keep every exponent at 12 or below, and division never makes the sum of exponents greater.
        static final int GREATEST_SUM = 36;

        // (36 + 1) * (36 + 2) * (36 + 3) / 6
        static final int HOW_MANY = 9139;

        static final int BITS = 6;
        static final int MASK = (1 << BITS) - 1;

        private Monomial() {
        }

        static int of(int e0, int e1, int e2) {
            return (((e0 + e1 + e2) << BITS | e0) << BITS | e1) << BITS | e2;
        }

        static int ofVariable(int v) {
            return 1 << 3 * BITS | 1 << (2 - v) * BITS;
        }

        /** Each exponent is looked at first, as the sum of great ones may leave the ints. */
        static boolean exists(int e0, int e1, int e2) {
            return e0 <= GREATEST_SUM && e1 <= GREATEST_SUM && e2 <= GREATEST_SUM && e0 + e1 + e2 <= GREATEST_SUM;
        }

        static int exponent(int monomial, int v) {
            return monomial >> (2 - v) * BITS & MASK;
        }

        static int sumAndFirst(int monomial) {
            return monomial >> 2 * BITS;
        }

        static int without(int monomial, int v) {
            return monomial - exponent(monomial, v) * ofVariable(v);
        }

        static boolean isMultiple(int monomial, int part) {
            return exponent(monomial, 0) >= exponent(part, 0)
                && exponent(monomial, 1) >= exponent(part, 1)
                && exponent(monomial, 2) >= exponent(part, 2);
        }
    }

    /** Terms, the highest first. */
    private static final class Polynomial {
        private static final int FIRST_ROOM = 16;

        int[] monomials = new int[FIRST_ROOM];
        int[] coefficients = new int[FIRST_ROOM];
        int size;

        void clear() {
            size = 0;
        }

        void append(int monomial, int coefficient) {
            if (size == monomials.length) {
                // Twice the room each time: all rows that it ever had are together no more than twice its last ones.
                monomials = Arrays.copyOf(monomials, 2 * size);
                coefficients = Arrays.copyOf(coefficients, 2 * size);
            }
            monomials[size] = monomial;
            coefficients[size] = coefficient;
            size++;
        }

        void becomeNumber(int number) {
            clear();
            if (number != 0) {
                append(Monomial.ONE, number);
            }
        }

        boolean isZero() {
            return size == 0;
        }

        int degreeIn(int v) {
            int greatest = 0;
            for (int i = 0; i < size; i++) {
                greatest = Math.max(greatest, Monomial.exponent(monomials[i], v));
            }
            return greatest;
        }

        int coefficientOf(int monomial) {
            for (int i = 0; i < size; i++) {
                if (monomials[i] == monomial) {
                    return coefficients[i];
                }
            }
            return 0;
        }

        boolean matches(Polynomial other) {
            if (size != other.size) {
                return false;
            }
            for (int i = 0; i < size; i++) {
                if (monomials[i] != other.monomials[i] || coefficients[i] != other.coefficients[i]) {
                    return false;
                }
            }
            return true;
        }
    }

    /**
     * A cell for the coefficient of every monomial, where sums are gathered. The cells stand by rank: the lowest
     * monomial has rank 0. Between calls every cell is 0.
     */
    private static final class Sheet {
        private final Field field;
        private final int[] monomials = new int[Monomial.HOW_MANY];
        private final int[] firstRanks = new int[(Monomial.GREATEST_SUM + 1) << Monomial.BITS];
        private final int[] cells = new int[Monomial.HOW_MANY];
        // No cell from here on is in use.
        private int end;

        Sheet(Field field) {
            this.field = field;
            int rank = 0;
            for (int sum = 0; sum <= Monomial.GREATEST_SUM; sum++) {
                for (int e0 = 0; e0 <= sum; e0++) {
                    firstRanks[sum << Monomial.BITS | e0] = rank;
                    for (int e1 = 0; e1 <= sum - e0; e1++) {
                        monomials[rank] = Monomial.of(e0, e1, sum - e0 - e1);
                        rank++;
                    }
                }
            }
        }

        private int rankOf(int monomial) {
            return firstRanks[Monomial.sumAndFirst(monomial)] + Monomial.exponent(monomial, 1);
        }

        private void addTerm(int monomial, int factor, int coefficient) {
            int rank = rankOf(monomial);
            cells[rank] = field.sumWithProduct(cells[rank], factor, coefficient);
            end = Math.max(end, rank + 1);
        }

        void addMultiple(Polynomial polynomial, int factor, int monomial) {
            for (int i = 0; i < polynomial.size; i++) {
                addTerm(polynomial.monomials[i] + monomial, factor, polynomial.coefficients[i]);
            }
        }

        void addProduct(Polynomial left, Polynomial right) {
            for (int i = 0; i < left.size; i++) {
                addMultiple(right, left.coefficients[i], left.monomials[i]);
            }
        }

        /** Adds what stands beside v to the power of e. */
        void addCoefficientOf(Polynomial polynomial, int v, int e) {
            for (int i = 0; i < polynomial.size; i++) {
                int monomial = polynomial.monomials[i];
                if (Monomial.exponent(monomial, v) == e) {
                    addTerm(Monomial.without(monomial, v), 1, polynomial.coefficients[i]);
                }
            }
        }

        /** One way down is enough, as a multiple that is taken away changes only lower terms beside its own. */
        void divideBy(Polynomial divisor, Polynomial quotient) {
            quotient.clear();
            int highest = divisor.monomials[0];
            int inverse = field.inverse(divisor.coefficients[0]);
            for (int rank = end - 1; rank >= 0; rank--) {
                if (cells[rank] != 0 && Monomial.isMultiple(monomials[rank], highest)) {
                    int monomial = monomials[rank] - highest;
                    int factor = field.product(cells[rank], inverse);
                    quotient.append(monomial, factor);
                    addMultiple(divisor, field.negative(factor), monomial);
                }
            }
        }

        void moveTo(Polynomial target) {
            target.clear();
            for (int rank = end - 1; rank >= 0; rank--) {
                if (cells[rank] != 0) {
                    target.append(monomials[rank], cells[rank]);
                }
            }
            clear();
        }

        void clear() {
            Arrays.fill(cells, 0, end, 0);
            end = 0;
        }
    }

    /** The powers of three numbers, one for each variable. */
    private static final class PowerTable {
        private final Field field;
        private final int[][] rows = new int[VARIABLES][Monomial.GREATEST_SUM + 1];

        PowerTable(Field field) {
            this.field = field;
        }

        void fillRow(int v, int x) {
            rows[v][0] = 1;
            for (int e = 1; e <= Monomial.GREATEST_SUM; e++) {
                rows[v][e] = field.product(rows[v][e - 1], x);
            }
        }

        int at(int monomial) {
            int result = 1;
            for (int v = 0; v < VARIABLES; v++) {
                result = field.product(result, rows[v][Monomial.exponent(monomial, v)]);
            }
            return result;
        }
    }
}
