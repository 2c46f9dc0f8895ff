/** One call each on two polynomials of many shapes, small and great, the result put into any register. */
public final class ShapesTest {
    private static final int[] LEASTS = {2, 3, 5, 7, 101, 46337};
    private static final int CASES = 3000;
    private static final int MOST_READ = 60;
    // How far the exponents of both polynomials reach in each kind of call.
    private static final int[] FIRST = {12, 6, 4, 12, 12, 3, 3, 5};
    private static final int[] SECOND = {12, 6, 4, 4, 12, 3, 3, 5};

    private long seed;
    private final PolynomialHeap heap;
    private final Model model;

    private ShapesTest(int number) {
        seed = 7919L * number + 3;
        int least = LEASTS[below(LEASTS.length)];
        heap = new PolynomialHeap(least);
        model = new Model(least);
    }

    public static void main(String[] args) {
        for (int number = 0; number < CASES; number++) {
            new ShapesTest(number).look("case " + number);
        }
        Check.end();
    }

    private int below(int bound) {
        seed = seed * 6364136223846793005L + 1442695040888963407L;
        return (int) ((seed >>> 33) % bound);
    }

    private void sow(int r, int... reach) {
        int[][] terms = new int[1 + below(7)][];
        for (int i = 0; i < terms.length; i++) {
            terms[i] = Desk.t(1 + below(46336), below(reach[0] + 1), below(reach[1] + 1), below(reach[2] + 1));
        }
        Desk.write(heap, r, terms);
        model.write(r, terms);
    }

    /** Steep ones reach far in one variable alone, for resultants of many rows. */
    private int[] reach(int most, boolean isSteep, int v) {
        int[] reach = new int[3];
        for (int u = 0; u < 3; u++) {
            reach[u] = isSteep ? (u == v ? 5 : below(3)) : 1 + below(most);
        }
        return reach;
    }

    private void look(String name) {
        int kind = below(8);
        int r = below(3);
        int v = below(3);
        sow(0, reach(FIRST[kind], kind == 7, v));
        sow(1, reach(SECOND[kind], kind == 7, v));
        Object[] answers = call(kind, r, v);
        Check.due(name + ", kind " + kind + ", answer", answers[0], answers[1]);
        for (int a = 0; a < 3; a++) {
            read(name + ", kind " + kind + " into " + r + ", register " + a, a);
        }
        Check.due(name + ", refused", heap.count(4), model.count(4));
    }

    private Object[] call(int kind, int r, int v) {
        switch (kind) {
            case 0: {
                int m = below(100000) - 50000;
                return deed(() -> heap.add(r, 0, 1, m), () -> model.add(r, 0, 1, m));
            }
            case 1:
                return pair(() -> heap.multiply(r, 0, 1), () -> model.multiply(r, 0, 1));
            case 2: {
                int n = below(6);
                return pair(() -> heap.power(r, 0, n), () -> model.power(r, 0, n));
            }
            case 3: {
                boolean quotient = below(2) == 0;
                return deed(() -> heap.divide(r, 0, 1, quotient), () -> model.divide(r, 0, 1, quotient));
            }
            case 4:
                return deed(() -> heap.derive(r, 0, v), () -> model.derive(r, 0, v));
            case 5:
                return pair(() -> heap.put(r, 0, v, 1), () -> model.put(r, 0, v, 1));
            default:
                return pair(() -> heap.resultant(r, 0, 1, v), () -> model.resultant(r, 0, 1, v));
        }
    }

    private static Object[] pair(Check.Call own, Check.Call due) {
        return new Object[] {Check.outcome(own), Check.outcome(due)};
    }

    private static Object[] deed(Check.Deed own, Check.Deed due) {
        return new Object[] {Check.outcomeOf(own), Check.outcomeOf(due)};
    }

    /** Not more terms than an object's 512 calls allow; the values speak for the others. */
    private void read(String name, int a) {
        int terms = model.terms(a);
        Check.due(name + ", terms", heap.terms(a), terms);
        Check.due(name + ", value", heap.value(a, 3, 5, -7), model.value(a, 3, 5, -7));
        for (int v = 0; v < 3; v++) {
            Check.due(name + ", degree", heap.degree(a, v), model.degree(a, v));
        }
        int stride = 1 + terms * 3 / MOST_READ;
        for (int i = 0; i < terms; i += stride) {
            int which = i;
            for (int what = 0; what < 4; what++) {
                int part = what;
                Check.due(name + ", term " + i + " " + what,
                    Check.outcome(() -> heap.term(a, which, part)), model.term(a, i, what));
            }
        }
    }
}
