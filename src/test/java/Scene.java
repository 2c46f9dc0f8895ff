import java.util.ArrayList;
import java.util.List;

/**
 * An object with something in every register, and single calls on it that leave what is due. Each call has a new
 * object, so none goes on for more than the 512 calls that the document speaks of.
 */
final class Scene {
    private static final int REGISTERS = 12;

    /** A call with an answer. */
    interface Call {
        Object on(PolynomialHeap heap);
    }

    /** A call without an answer. */
    interface Deed {
        void on(PolynomialHeap heap);
    }

    private final int least;
    private final List<Deed> steps = new ArrayList<>();

    private Scene(int least) {
        this.least = least;
        for (int r = 0; r < REGISTERS; r++) {
            int register = r;
            after(heap -> fill(heap, register));
        }
    }

    static Scene modulo(int least) {
        return new Scene(least);
    }

    /** x, y, z, x2, y2 .. z4: in each register something else, whatever the prime. */
    private static void fill(PolynomialHeap heap, int r) {
        heap.variable(r, r % 3);
        heap.power(r, r, 1 + r / 3);
    }

    /** Register r, 0 .. 9, has a sum of terms {coefficient, e0, e1, e2}. */
    Scene with(int r, int[]... terms) {
        return after(heap -> {
            Desk.write(heap, r, terms);
            fill(heap, 10);
            fill(heap, 11);
        });
    }

    /** A call that comes before those that are looked at. */
    Scene after(Deed deed) {
        steps.add(deed);
        return this;
    }

    private PolynomialHeap play() {
        PolynomialHeap heap = new PolynomialHeap(least);
        for (Deed step : steps) {
            step.on(heap);
        }
        return heap;
    }

    /** It throws, and nothing has changed, the count of refused calls included. */
    Scene throwing(String what, String exception, Deed deed) {
        leavesAll(what, exception, 0, done(deed));
        return this;
    }

    /** It answers false, and nothing but the count of such calls has changed. */
    Scene refusing(String what, Call call) {
        leavesAll(what, false, 1, call);
        return this;
    }

    /** It answers what is due, and nothing has changed. */
    Scene answering(String what, Object want, Call call) {
        leavesAll(what, want, 0, call);
        return this;
    }

    /** It is done: register r has what is due, and the others what they had. */
    Scene making(String what, int r, String want, Call call) {
        PolynomialHeap heap = play();
        String[] before = registers(heap);
        int refused = heap.count(4);
        Check.due(what, Check.outcome(() -> call.on(heap)), true);
        String[] after = registers(heap);
        for (int i = 0; i < REGISTERS; i++) {
            Check.due(what + ", register " + i, after[i], i == r ? want : before[i]);
        }
        Check.due(what + ", calls that answered false", heap.count(4), refused);
        return this;
    }

    Scene doing(String what, int r, String want, Deed deed) {
        return making(what, r, want, done(deed));
    }

    /** Whatever else is to be looked at. */
    void looking(Deed deed) {
        deed.on(play());
    }

    private void leavesAll(String what, Object want, int refused, Call call) {
        PolynomialHeap heap = play();
        String before = state(heap);
        int refusedBefore = heap.count(4);
        Check.due(what, Check.outcome(() -> call.on(heap)), want);
        Check.due(what + ", afterwards", state(heap), before);
        Check.due(what + ", calls that answered false", heap.count(4), refusedBefore + refused);
        // None of b: a call that leaves all as it is, unless the one before has left something behind.
        heap.add(0, 0, 1, 0);
        Check.due(what + ", after the next call", state(heap), before);
    }

    private static Call done(Deed deed) {
        return heap -> {
            deed.on(heap);
            return true;
        };
    }

    private static String[] registers(PolynomialHeap heap) {
        String[] texts = new String[REGISTERS];
        for (int r = 0; r < REGISTERS; r++) {
            texts[r] = Desk.read(heap, r);
        }
        return texts;
    }

    private static String state(PolynomialHeap heap) {
        StringBuilder text = new StringBuilder(String.join("; ", registers(heap)));
        for (int what = 0; what < 4; what++) {
            text.append("; ").append(heap.count(what));
        }
        return text.toString();
    }
}
