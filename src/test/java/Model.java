import java.util.ArrayList;
import java.util.Comparator;
import java.util.List;
import java.util.Map;
import java.util.TreeMap;

/** The document again, in its plainest form and another way than the program: sorted maps of long coefficients. */
final class Model {
    private static final Comparator<List<Integer>> HEIGHT = Comparator
        .<List<Integer>>comparingInt(e -> e.get(0) + e.get(1) + e.get(2))
        .thenComparingInt(e -> e.get(0))
        .thenComparingInt(e -> e.get(1));

    private final long prime;
    private final List<TreeMap<List<Integer>, Long>> registers = new ArrayList<>();
    private int refused = 0;

    Model(int least) {
        int n = Math.max(2, least);
        while (n < 46337 && !isPrime(n)) {
            n++;
        }
        prime = Math.min(n, 46337);
        for (int r = 0; r < 12; r++) {
            registers.add(zero());
        }
    }

    private static boolean isPrime(int n) {
        for (int d = 2; d < n; d++) {
            if (n % d == 0) {
                return false;
            }
        }
        return true;
    }

    private static TreeMap<List<Integer>, Long> zero() {
        return new TreeMap<>(HEIGHT);
    }

    private TreeMap<List<Integer>, Long> number(long c) {
        return plusTerm(zero(), List.of(0, 0, 0), c);
    }

    private TreeMap<List<Integer>, Long> plusTerm(TreeMap<List<Integer>, Long> to, List<Integer> e, long c) {
        long sum = Math.floorMod(to.getOrDefault(e, 0L) + Math.floorMod(c, prime), prime);
        if (sum == 0) {
            to.remove(e);
        } else {
            to.put(e, sum);
        }
        return to;
    }

    private TreeMap<List<Integer>, Long> sum(Map<List<Integer>, Long> a, Map<List<Integer>, Long> b, long m) {
        TreeMap<List<Integer>, Long> result = zero();
        a.forEach((e, c) -> plusTerm(result, e, c));
        b.forEach((e, c) -> plusTerm(result, e, c * Math.floorMod(m, prime)));
        return result;
    }

    private TreeMap<List<Integer>, Long> product(Map<List<Integer>, Long> a, Map<List<Integer>, Long> b) {
        TreeMap<List<Integer>, Long> result = zero();
        a.forEach((e, c) -> b.forEach((f, d) -> plusTerm(result,
            List.of(e.get(0) + f.get(0), e.get(1) + f.get(1), e.get(2) + f.get(2)), c * d)));
        return result;
    }

    private TreeMap<List<Integer>, Long> raised(Map<List<Integer>, Long> a, int n) {
        TreeMap<List<Integer>, Long> result = number(1);
        for (int i = 0; i < n; i++) {
            result = product(result, a);
        }
        return result;
    }

    private static int degreeOf(Map<List<Integer>, Long> a, int v) {
        int greatest = 0;
        for (List<Integer> e : a.keySet()) {
            greatest = Math.max(greatest, e.get(v));
        }
        return greatest;
    }

    private static List<Integer> with(List<Integer> e, int v, int exponent) {
        List<Integer> changed = new ArrayList<>(e);
        changed.set(v, exponent);
        return List.copyOf(changed);
    }

    private TreeMap<List<Integer>, Long> beside(Map<List<Integer>, Long> a, int v, int exponent) {
        TreeMap<List<Integer>, Long> result = zero();
        a.forEach((e, c) -> {
            if (e.get(v) == exponent) {
                plusTerm(result, with(e, v, 0), c);
            }
        });
        return result;
    }

    private TreeMap<List<Integer>, Long> at(int r) {
        if (r < 0 || r > 11) {
            throw new IndexOutOfBoundsException();
        }
        return registers.get(r);
    }

    private static void need(boolean good) {
        if (!good) {
            throw new IllegalArgumentException();
        }
    }

    private static void needVariable(int v) {
        need(v >= 0 && v <= 2);
    }

    private boolean allWithin(int... bounds) {
        for (int bound : bounds) {
            if (bound > 12) {
                refused++;
                return false;
            }
        }
        return true;
    }

    /** Register r becomes the sum of terms {coefficient, e0, e1, e2}, as Desk writes it. */
    void write(int r, int[]... terms) {
        TreeMap<List<Integer>, Long> result = zero();
        for (int[] term : terms) {
            plusTerm(result, List.of(term[1], term[2], term[3]), term[0]);
        }
        registers.set(r, result);
    }

    void constant(int r, int c) {
        at(r);
        registers.set(r, number(c));
    }

    void variable(int r, int v) {
        at(r);
        needVariable(v);
        registers.set(r, plusTerm(zero(), with(List.of(0, 0, 0), v, 1), 1));
    }

    void add(int r, int a, int b, int m) {
        at(r);
        registers.set(r, sum(at(a), at(b), m));
    }

    boolean multiply(int r, int a, int b) {
        at(r);
        int[] bounds = new int[3];
        for (int u = 0; u < 3; u++) {
            bounds[u] = degreeOf(at(a), u) + degreeOf(at(b), u);
        }
        if (!allWithin(bounds)) {
            return false;
        }
        registers.set(r, product(at(a), at(b)));
        return true;
    }

    boolean power(int r, int a, int n) {
        at(r);
        at(a);
        need(n >= 0 && n <= 100);
        if (!allWithin(n * degreeOf(at(a), 0), n * degreeOf(at(a), 1), n * degreeOf(at(a), 2))) {
            return false;
        }
        registers.set(r, raised(at(a), n));
        return true;
    }

    void divide(int r, int a, int b, boolean quotient) {
        at(r);
        TreeMap<List<Integer>, Long> left = sum(at(a), zero(), 0);
        TreeMap<List<Integer>, Long> by = at(b);
        need(!by.isEmpty());
        TreeMap<List<Integer>, Long> times = zero();
        List<Integer> head = by.lastKey();
        List<Integer> found = highestMultiple(left, head);
        while (found != null) {
            TreeMap<List<Integer>, Long> step = zero();
            plusTerm(step, List.of(found.get(0) - head.get(0), found.get(1) - head.get(1), found.get(2) - head.get(2)),
                left.get(found) * inverse(by.get(head)));
            times = sum(times, step, 1);
            left = sum(left, product(step, by), -1);
            found = highestMultiple(left, head);
        }
        registers.set(r, quotient ? times : left);
    }

    private static List<Integer> highestMultiple(TreeMap<List<Integer>, Long> a, List<Integer> head) {
        for (List<Integer> e : a.descendingKeySet()) {
            if (e.get(0) >= head.get(0) && e.get(1) >= head.get(1) && e.get(2) >= head.get(2)) {
                return e;
            }
        }
        return null;
    }

    private long inverse(long c) {
        long i = 1;
        while (i * c % prime != 1) {
            i++;
        }
        return i;
    }

    void derive(int r, int a, int v) {
        at(r);
        at(a);
        needVariable(v);
        TreeMap<List<Integer>, Long> result = zero();
        at(a).forEach((e, c) -> {
            if (e.get(v) > 0) {
                plusTerm(result, with(e, v, e.get(v) - 1), c * e.get(v));
            }
        });
        registers.set(r, result);
    }

    boolean put(int r, int a, int v, int b) {
        at(r);
        at(a);
        at(b);
        needVariable(v);
        int[] bounds = new int[3];
        for (int u = 0; u < 3; u++) {
            bounds[u] = (u == v ? 0 : degreeOf(at(a), u)) + degreeOf(at(a), v) * degreeOf(at(b), u);
        }
        if (!allWithin(bounds)) {
            return false;
        }
        TreeMap<List<Integer>, Long> result = zero();
        for (int e = 0; e <= degreeOf(at(a), v); e++) {
            result = sum(result, product(beside(at(a), v, e), raised(at(b), e)), 1);
        }
        registers.set(r, result);
        return true;
    }

    boolean resultant(int r, int a, int b, int v) {
        at(r);
        at(a);
        at(b);
        needVariable(v);
        int m = degreeOf(at(a), v);
        int n = degreeOf(at(b), v);
        need(!at(a).isEmpty() && !at(b).isEmpty() && m + n <= 8);
        int[] bounds = new int[3];
        for (int u = 0; u < 3; u++) {
            bounds[u] = u == v ? 0 : n * degreeOf(at(a), u) + m * degreeOf(at(b), u);
        }
        if (!allWithin(bounds)) {
            return false;
        }
        List<List<TreeMap<List<Integer>, Long>>> square = new ArrayList<>();
        for (int row = 0; row < m + n; row++) {
            square.add(row < n ? squareRow(at(a), v, m, row, m + n) : squareRow(at(b), v, n, row - n, m + n));
        }
        registers.set(r, determinant(square));
        return true;
    }

    private List<TreeMap<List<Integer>, Long>> squareRow(Map<List<Integer>, Long> of, int v, int top, int from, int size) {
        List<TreeMap<List<Integer>, Long>> row = new ArrayList<>();
        for (int column = 0; column < size; column++) {
            int exponent = top - (column - from);
            row.add(column < from || exponent < 0 ? zero() : beside(of, v, exponent));
        }
        return row;
    }

    /** By the first column, from below: another way than the program's. */
    private TreeMap<List<Integer>, Long> determinant(List<List<TreeMap<List<Integer>, Long>>> square) {
        if (square.isEmpty()) {
            return number(1);
        }
        TreeMap<List<Integer>, Long> result = zero();
        for (int row = 0; row < square.size(); row++) {
            Map<List<Integer>, Long> entry = square.get(row).get(0);
            if (!entry.isEmpty()) {
                List<List<TreeMap<List<Integer>, Long>>> rest = new ArrayList<>();
                for (int other = 0; other < square.size(); other++) {
                    if (other != row) {
                        rest.add(square.get(other).subList(1, square.size()));
                    }
                }
                result = sum(result, product(entry, determinant(rest)), row % 2 == 0 ? 1 : -1);
            }
        }
        return result;
    }

    int value(int a, int... x) {
        long sum = 0;
        for (Map.Entry<List<Integer>, Long> term : at(a).entrySet()) {
            long part = term.getValue();
            for (int v = 0; v < 3; v++) {
                for (int i = 0; i < term.getKey().get(v); i++) {
                    part = Math.floorMod(part * x[v], prime);
                }
            }
            sum += part;
        }
        return (int) (sum % prime);
    }

    int terms(int a) {
        return at(a).size();
    }

    int term(int a, int i, int what) {
        if (i < 0 || i >= at(a).size()) {
            throw new IndexOutOfBoundsException();
        }
        need(what >= 0 && what <= 3);
        List<Integer> e = new ArrayList<>(at(a).descendingKeySet()).get(i);
        return what == 0 ? (int) (long) at(a).get(e) : e.get(what - 1);
    }

    int coefficient(int a, int e0, int e1, int e2) {
        at(a);
        need(e0 >= 0 && e1 >= 0 && e2 >= 0);
        for (Map.Entry<List<Integer>, Long> term : at(a).entrySet()) {
            if (term.getKey().equals(List.of(e0, e1, e2))) {
                return (int) (long) term.getValue();
            }
        }
        return 0;
    }

    int degree(int a, int v) {
        at(a);
        needVariable(v);
        return degreeOf(at(a), v);
    }

    boolean isSame(int a, int b) {
        return new ArrayList<>(at(a).entrySet()).equals(new ArrayList<>(at(b).entrySet()));
    }

    int count(int what) {
        int terms = 0;
        int zeros = 0;
        int greatest = 0;
        for (Map<List<Integer>, Long> a : registers) {
            terms += a.size();
            zeros += a.isEmpty() ? 1 : 0;
            greatest = Math.max(greatest, Math.max(degreeOf(a, 0), Math.max(degreeOf(a, 1), degreeOf(a, 2))));
        }
        int[] answers = {(int) prime, terms, zeros, greatest, refused};
        return what >= 0 && what < answers.length ? answers[what] : -1;
    }
}
