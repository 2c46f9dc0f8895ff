/** Long runs of calls, right and wrong ones mixed, answered by the program and by the model alike. */
public final class ModelTest {
    private static final int[] LEASTS = {-5, 2, 3, 4, 7, 11, 30, 97, 1000, 30000, 46330, 46338, Integer.MAX_VALUE};
    private static final int RUNS = 400;
    private static final int CALLS = 512;

    private long seed;
    private final PolynomialHeap heap;
    private final Model model;
    private String call = "";
    private int last = 0;

    private ModelTest(int run) {
        seed = 1000003L * run + 17;
        int least = LEASTS[run % LEASTS.length];
        heap = new PolynomialHeap(least);
        model = new Model(least);
    }

    public static void main(String[] args) {
        for (int run = 0; run < RUNS; run++) {
            ModelTest test = new ModelTest(run);
            for (int i = 0; i < CALLS; i++) {
                test.step(run, i);
            }
        }
        Check.end();
    }

    /** The same numbers in every run of the test. */
    private int below(int bound) {
        seed = seed * 6364136223846793005L + 1442695040888963407L;
        return (int) ((seed >>> 33) % bound);
    }

    private int register() {
        return below(60) == 0 ? (below(2) == 0 ? -1 : 12) : below(12);
    }

    /** Mostly the register that the last call wrote, so that what it made is looked at. */
    private int asked() {
        return below(3) == 0 ? register() : last;
    }

    private int variable() {
        return below(40) == 0 ? (below(2) == 0 ? -1 : 3) : below(3);
    }

    private int number() {
        return below(3) == 0 ? below(Integer.MAX_VALUE) * (below(2) * 2 - 1) : below(7) - 3;
    }

    private void step(int run, int i) {
        int kind = below(2) == 0 ? below(18) : 18 + below(12);
        Object[] answers = kind < 18 ? make(kind) : ask(kind);
        Check.due("run " + run + ", call " + i + ": " + call, answers[0], answers[1]);
    }

    private Object[] pair(String text, Check.Call own, Check.Call due) {
        call = text;
        return new Object[] {Check.outcome(own), Check.outcome(due)};
    }

    private Object[] deed(String text, Check.Deed own, Check.Deed due) {
        call = text;
        return new Object[] {Check.outcomeOf(own), Check.outcomeOf(due)};
    }

    private int termsOf(int a) {
        return a < 0 || a > 11 ? 0 : model.terms(a);
    }

    private Object[] make(int kind) {
        int r = register();
        int a = register();
        int b = register();
        int v = variable();
        int c = number();
        last = r;
        switch (kind) {
            case 0:
                return deed("constant " + r + " " + c, () -> heap.constant(r, c), () -> model.constant(r, c));
            case 1: case 2:
                return deed("variable " + r + " " + v, () -> heap.variable(r, v), () -> model.variable(r, v));
            case 3: case 4: case 5: case 6: case 7:
                return deed("add " + r + " " + a + " " + b + " " + c,
                    () -> heap.add(r, a, b, c), () -> model.add(r, a, b, c));
            case 8: case 9: case 10:
                return pair("multiply " + r + " " + a + " " + b,
                    () -> heap.multiply(r, a, b), () -> model.multiply(r, a, b));
            case 11: {
                int n = below(10) == 0 ? below(104) - 2 : below(5);
                return pair("power " + r + " " + a + " " + n, () -> heap.power(r, a, n), () -> model.power(r, a, n));
            }
            case 12: case 13: {
                boolean quotient = below(3) == 0;
                return deed("divide " + r + " " + a + " " + b + " " + quotient,
                    () -> heap.divide(r, a, b, quotient), () -> model.divide(r, a, b, quotient));
            }
            case 14:
                return deed("derive " + r + " " + a + " " + v, () -> heap.derive(r, a, v), () -> model.derive(r, a, v));
            case 15:
                return pair("put " + r + " " + a + " " + v + " " + b,
                    () -> heap.put(r, a, v, b), () -> model.put(r, a, v, b));
            default:
                return pair("resultant " + r + " " + a + " " + b + " " + v,
                    () -> heap.resultant(r, a, b, v), () -> model.resultant(r, a, b, v));
        }
    }

    private Object[] ask(int kind) {
        int a = asked();
        int b = register();
        int v = variable();
        int x = number();
        int y = number();
        int z = number();
        switch (kind) {
            case 18: case 19:
                return pair("value " + a + " " + x + " " + y + " " + z,
                    () -> heap.value(a, x, y, z), () -> model.value(a, x, y, z));
            case 20:
                return pair("terms " + a, () -> heap.terms(a), () -> model.terms(a));
            case 21: case 22: {
                int i = below(20) == 0 ? below(3) - 1 : below(Math.max(1, termsOf(a)));
                int what = below(20) == 0 ? below(6) - 1 : below(4);
                return pair("term " + a + " " + i + " " + what, () -> heap.term(a, i, what), () -> model.term(a, i, what));
            }
            case 23: case 24: {
                int e0 = below(15) - 1;
                int e1 = below(4);
                int e2 = below(3);
                return pair("coefficient " + a + " " + e0 + " " + e1 + " " + e2,
                    () -> heap.coefficient(a, e0, e1, e2), () -> model.coefficient(a, e0, e1, e2));
            }
            case 25: case 26:
                return pair("degree " + a + " " + v, () -> heap.degree(a, v), () -> model.degree(a, v));
            case 27: case 28:
                return pair("isSame " + a + " " + b, () -> heap.isSame(a, b), () -> model.isSame(a, b));
            default: {
                int what = below(8) - 1;
                return pair("count " + what, () -> heap.count(what), () -> model.count(what));
            }
        }
    }
}
