/** Writes polynomials into the registers of a PolynomialHeap and reads them back as text, through its face alone. */
final class Desk {
    private static final String[] NAMES = {"x", "y", "z"};

    private Desk() {
    }

    /** Register r becomes the sum of terms {coefficient, e0, e1, e2}; registers 10 and 11 are used up. */
    static void write(PolynomialHeap heap, int r, int[]... terms) {
        heap.constant(r, 0);
        for (int[] term : terms) {
            heap.constant(10, 1);
            for (int v = 0; v < 3; v++) {
                heap.variable(11, v);
                heap.power(11, 11, term[1 + v]);
                heap.multiply(10, 10, 11);
            }
            heap.add(r, r, 10, term[0]);
        }
        heap.constant(10, 0);
        heap.constant(11, 0);
    }

    static int[] t(int coefficient, int e0, int e1, int e2) {
        return new int[] {coefficient, e0, e1, e2};
    }

    /** Such as "3 x2 y". */
    static String text(int coefficient, int... exponents) {
        StringBuilder text = new StringBuilder().append(coefficient);
        for (int v = 0; v < 3; v++) {
            int e = exponents[v];
            text.append(e == 0 ? "" : " " + NAMES[v] + (e == 1 ? "" : e));
        }
        return text.toString();
    }

    /** Such as "3 x2 y + 1", the highest term first; "0" without terms. */
    static String read(PolynomialHeap heap, int r) {
        StringBuilder text = new StringBuilder();
        int terms = heap.terms(r);
        for (int i = 0; i < terms; i++) {
            text.append(i == 0 ? "" : " + ")
                .append(text(heap.term(r, i, 0), heap.term(r, i, 1), heap.term(r, i, 2), heap.term(r, i, 3)));
        }
        return text.length() == 0 ? "0" : text.toString();
    }
}
