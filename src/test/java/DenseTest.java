/**
 * Polynomials that have every monomial up to their degrees, where a plain model would take too long: what a call makes
 * is looked at by its values at many points, which the test reckons from the numbers that it began with.
 */
public final class DenseTest {
    private static final int[] LEASTS = {101, 46337};
    private static final int POINTS = 20;
    private static final int TERMS_OF_ONE_OBJECT = 60;
    private static final int[][] BOXES = {{0, 0, 1}, {1, 1, 1}, {2, 0, 3}, {3, 5, 1}, {6, 6, 6}, {12, 1, 4}, {12, 12, 12}};
    // Degrees in v of both, degrees in the two other variables of the first and of the second.
    private static final int[][] RESULTANTS = {{1, 1, 6, 6, 6, 6}, {2, 2, 3, 3, 3, 3}, {4, 4, 1, 2, 2, 1},
        {4, 4, 3, 0, 0, 3}, {3, 5, 0, 1, 4, 2}, {6, 2, 3, 0, 1, 2}, {7, 1, 5, 5, 1, 1}, {1, 7, 1, 0, 5, 12},
        {8, 0, 12, 12, 1, 1}, {0, 8, 1, 1, 12, 12}, {0, 0, 12, 12, 12, 12}, {0, 1, 12, 12, 3, 3}};

    private static long seed = 20261115;

    public static void main(String[] args) {
        for (int least : LEASTS) {
            products(least);
            powers(least);
            polynomialsPutIntoOneAnother(least);
            divisions(least);
            resultants(least);
        }
        Check.end();
    }

    private static int below(int bound) {
        seed = seed * 6364136223846793005L + 1442695040888963407L;
        return (int) ((seed >>> 33) % bound);
    }

    private static int[] point(int prime) {
        return new int[] {below(prime), below(prime), below(prime)};
    }

    private static long power(long base, int n, int prime) {
        long result = 1;
        for (int i = 0; i < n; i++) {
            result = result * base % prime;
        }
        return result;
    }

    /** A sum of three products of (x + ..) to some power, (y + ..) to some power, (z + ..) to some power. */
    private static final class Sum {
        private static final int PRODUCTS = 3;

        final int prime;
        final int[] degrees;
        private final int[] factors = new int[PRODUCTS];
        private final int[][] shifts = new int[PRODUCTS][];

        Sum(int prime, int... degrees) {
            this.prime = prime;
            this.degrees = degrees;
            for (int k = 0; k < PRODUCTS; k++) {
                factors[k] = 1 + below(prime - 1);
                shifts[k] = point(prime);
            }
            // The sum keeps its degrees when the highest terms do not cancel out.
            if ((factors[0] + factors[1] + factors[2]) % prime == 0) {
                factors[0] = factors[0] % (prime - 1) + 1;
            }
        }

        /** Registers 9, 10 and 11 are used up. */
        void write(PolynomialHeap heap, int r) {
            heap.constant(r, 0);
            for (int k = 0; k < PRODUCTS; k++) {
                heap.constant(9, factors[k]);
                for (int v = 0; v < 3; v++) {
                    heap.variable(10, v);
                    heap.constant(11, shifts[k][v]);
                    heap.add(10, 10, 11, 1);
                    heap.power(10, 10, degrees[v]);
                    heap.multiply(9, 9, 10);
                }
                heap.add(r, r, 9, 1);
            }
        }

        int at(int... x) {
            long sum = 0;
            for (int k = 0; k < PRODUCTS; k++) {
                long product = factors[k];
                for (int v = 0; v < 3; v++) {
                    product = product * power(x[v] + shifts[k][v], degrees[v], prime) % prime;
                }
                sum += product;
            }
            return (int) (sum % prime);
        }

        /** The coefficients of v, the highest first, with numbers for the other variables. */
        long[] along(int v, int... x) {
            long[] sum = new long[degrees[v] + 1];
            for (int k = 0; k < PRODUCTS; k++) {
                long[] row = new long[degrees[v] + 1];
                row[0] = factors[k];
                for (int u = 0; u < 3; u++) {
                    row[0] = u == v ? row[0] : row[0] * power(x[u] + shifts[k][u], degrees[u], prime) % prime;
                }
                for (int i = 1; i <= degrees[v]; i++) {
                    for (int j = i; j > 0; j--) {
                        row[j] = (row[j] + row[j - 1] * shifts[k][v]) % prime;
                    }
                }
                for (int j = 0; j < row.length; j++) {
                    sum[j] = (sum[j] + row[j]) % prime;
                }
            }
            return sum;
        }
    }

    private static PolynomialHeap heap(Sum a, Sum b) {
        PolynomialHeap heap = new PolynomialHeap(a.prime);
        a.write(heap, 0);
        b.write(heap, 1);
        return heap;
    }

    private static int valueAt(PolynomialHeap heap, int r, int[] x) {
        return heap.value(r, x[0], x[1], x[2]);
    }

    private static boolean keeps(int[] bounds) {
        return bounds[0] <= 12 && bounds[1] <= 12 && bounds[2] <= 12;
    }

    private static void products(int prime) {
        for (int[] first : BOXES) {
            for (int[] second : BOXES) {
                Sum a = new Sum(prime, first);
                Sum b = new Sum(prime, second);
                PolynomialHeap heap = heap(a, b);
                String what = "5: product of " + Desk.text(1, first) + " and " + Desk.text(1, second);
                int[] bounds = {first[0] + second[0], first[1] + second[1], first[2] + second[2]};
                Check.due(what, heap.multiply(2, 0, 1), keeps(bounds));
                for (int i = 0; keeps(bounds) && i < POINTS; i++) {
                    int[] x = point(prime);
                    Check.due(what + ", value", valueAt(heap, 2, x), (int) ((long) a.at(x) * b.at(x) % prime));
                }
            }
        }
    }

    private static void powers(int prime) {
        for (int[] box : BOXES) {
            for (int n = 0; n <= 13; n++) {
                Sum a = new Sum(prime, box);
                PolynomialHeap heap = heap(a, a);
                String what = "6: " + Desk.text(1, box) + " to the power of " + n;
                int[] bounds = {n * box[0], n * box[1], n * box[2]};
                Check.due(what, heap.power(2, 0, n), keeps(bounds));
                for (int i = 0; keeps(bounds) && i < POINTS; i++) {
                    int[] x = point(prime);
                    Check.due(what + ", value", valueAt(heap, 2, x), (int) power(a.at(x), n, prime));
                }
            }
        }
    }

    private static void polynomialsPutIntoOneAnother(int prime) {
        for (int[] outer : BOXES) {
            for (int[] inner : BOXES) {
                for (int v = 0; v < 3; v++) {
                    putInto(new Sum(prime, outer), new Sum(prime, inner), v);
                }
            }
        }
    }

    private static void putInto(Sum a, Sum b, int v) {
        PolynomialHeap heap = heap(a, b);
        String what = "9: " + Desk.text(1, b.degrees) + " in place of " + v + " in " + Desk.text(1, a.degrees);
        int[] bounds = new int[3];
        for (int u = 0; u < 3; u++) {
            bounds[u] = (u == v ? 0 : a.degrees[u]) + a.degrees[v] * b.degrees[u];
        }
        Check.due(what, heap.put(2, 0, v, 1), keeps(bounds));
        for (int i = 0; keeps(bounds) && i < POINTS; i++) {
            int[] x = point(a.prime);
            int[] moved = x.clone();
            moved[v] = b.at(x);
            Check.due(what + ", value", valueAt(heap, 2, x), a.at(moved));
        }
    }

    private static void divisions(int prime) {
        for (int[] second : new int[][] {{0, 0, 1}, {1, 0, 0}, {1, 1, 1}, {2, 0, 3}, {4, 4, 4}, {6, 6, 6}, {12, 1, 4}}) {
            Sum a = new Sum(prime, 12, 12, 12);
            division(a, new Sum(prime, second), PolynomialHeap.NONE);
            division(a, new Sum(prime, second), 3);
            division(new Sum(prime, 5, 4, 6), new Sum(prime, second), 4);
        }
    }

    /**
     * Divides register 0 by register 1 into 2 (the quotient) and 3 (what is left). To register 1 variable 0 to the power
     * of raised is added, unless it is NONE: where that is its highest term, the other degrees of what is left grow.
     */
    private static PolynomialHeap divided(Sum a, Sum b, int raised) {
        PolynomialHeap heap = heap(a, b);
        heap.constant(4, 0);
        if (raised != PolynomialHeap.NONE) {
            heap.variable(4, 0);
            heap.power(4, 4, raised);
        }
        heap.add(1, 1, 4, 1);
        heap.divide(2, 0, 1, true);
        heap.divide(3, 0, 1, false);
        return heap;
    }

    /** Quotient and rest are the only ones with a = quotient * b + rest and no multiple of b's highest in the rest. */
    private static void division(Sum a, Sum b, int raised) {
        PolynomialHeap heap = divided(a, b, raised);
        String what = "7: " + Desk.text(1, a.degrees) + " by " + Desk.text(1, b.degrees) + " and x" + raised;
        for (int i = 0; i < POINTS; i++) {
            int[] x = point(a.prime);
            long divisor = b.at(x) + (raised == PolynomialHeap.NONE ? 0 : power(x[0], raised, a.prime));
            long sum = valueAt(heap, 2, x) * divisor + valueAt(heap, 3, x);
            Check.due(what + ", value", (int) (sum % a.prime), a.at(x));
        }
        int left = heap.terms(3);
        int multiples = 0;
        for (int from = 0; from < left; from += TERMS_OF_ONE_OBJECT) {
            // A new object each time, as one is used for at most 512 calls.
            multiples += multiplesLeft(divided(a, b, raised), from, Math.min(left, from + TERMS_OF_ONE_OBJECT));
        }
        Check.due(what + ", multiples of the highest that are left", multiples, 0);
    }

    private static int multiplesLeft(PolynomialHeap heap, int from, int end) {
        int[] highest = {heap.term(1, 0, 1), heap.term(1, 0, 2), heap.term(1, 0, 3)};
        int found = 0;
        for (int i = from; i < end; i++) {
            boolean multiple = true;
            for (int v = 0; v < 3; v++) {
                multiple &= heap.term(3, i, 1 + v) >= highest[v];
            }
            found += multiple ? 1 : 0;
        }
        return found;
    }

    private static void resultants(int prime) {
        for (int[] row : RESULTANTS) {
            for (int v = 0; v < 3; v++) {
                resultant(new Sum(prime, box(v, row[0], row[2], row[3])), new Sum(prime, box(v, row[1], row[4], row[5])), v);
            }
        }
    }

    private static int[] box(int v, int inV, int inNext, int inLast) {
        int[] degrees = new int[3];
        degrees[v] = inV;
        degrees[(v + 1) % 3] = inNext;
        degrees[(v + 2) % 3] = inLast;
        return degrees;
    }

    /** With numbers for the other variables the determinant of polynomials is one of numbers. */
    private static void resultant(Sum a, Sum b, int v) {
        PolynomialHeap heap = heap(a, b);
        String what = "10: " + Desk.text(1, a.degrees) + " and " + Desk.text(1, b.degrees) + " by " + v;
        Check.due(what, heap.resultant(2, 0, 1, v), true);
        Check.due(what + ", degree in v", heap.degree(2, v), 0);
        for (int i = 0; i < POINTS; i++) {
            int[] x = point(a.prime);
            long[][] square = square(a.along(v, x), b.along(v, x));
            Check.due(what + ", value", valueAt(heap, 2, x), (int) determinant(square, a.prime));
        }
    }

    private static long[][] square(long[] first, long[] second) {
        int m = first.length - 1;
        int n = second.length - 1;
        long[][] rows = new long[m + n][m + n];
        for (int i = 0; i < n; i++) {
            System.arraycopy(first, 0, rows[i], i, m + 1);
        }
        for (int i = 0; i < m; i++) {
            System.arraycopy(second, 0, rows[n + i], i, n + 1);
        }
        return rows;
    }

    /** By taking multiples of rows away from those below; the square is used up. */
    private static long determinant(long[][] rows, int prime) {
        long result = 1;
        for (int c = 0; c < rows.length; c++) {
            int pivot = c;
            while (pivot < rows.length && rows[pivot][c] == 0) {
                pivot++;
            }
            if (pivot == rows.length) {
                return 0;
            }
            long[] row = rows[pivot];
            rows[pivot] = rows[c];
            rows[c] = row;
            result = (pivot == c ? result : prime - result) * row[c] % prime;
            long inverse = power(row[c], prime - 2, prime);
            for (int i = c + 1; i < rows.length; i++) {
                long factor = rows[i][c] * inverse % prime;
                for (int j = c; j < rows.length; j++) {
                    rows[i][j] = (rows[i][j] + (prime - factor) * row[j]) % prime;
                }
            }
        }
        return result;
    }
}
