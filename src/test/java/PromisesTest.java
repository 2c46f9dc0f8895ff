/** Each promise of the document by hand: ordinary inputs, the edges that it names, and wrong inputs. */
public final class PromisesTest {
    private static final int LOW = Integer.MIN_VALUE;
    private static final int HIGH = Integer.MAX_VALUE;
    private static final int[] NO_REGISTERS = {-1, 12, LOW, HIGH};
    private static final int[] NO_VARIABLES = {-1, 3, LOW, HIGH};

    public static void main(String[] args) {
        aNewObject();
        constant();
        variable();
        add();
        multiply();
        power();
        divide();
        divideFar();
        divideLong();
        derive();
        put();
        putAtBounds();
        resultant();
        resultantSigns();
        resultantAtBounds();
        value();
        terms();
        term();
        coefficient();
        degree();
        isSame();
        count();
        registersThatAreNot();
        registersBeforeOtherNumbers();
        wrongCallsChangeNothing();
        refusedCallsChangeNothing();
        Check.end();
    }

    private static PolynomialHeap heap(int least) {
        return new PolynomialHeap(least);
    }

    private static int[] t(int coefficient, int e0, int e1, int e2) {
        return Desk.t(coefficient, e0, e1, e2);
    }

    private static void reads(String what, PolynomialHeap heap, int r, String want) {
        Check.due(what, Desk.read(heap, r), want);
    }

    private static void aNewObject() {
        int[][] primes = {{LOW, 2}, {-7, 2}, {0, 2}, {1, 2}, {2, 2}, {3, 3}, {4, 5}, {8, 11}, {9, 11}, {24, 29}, {25, 29},
            {113, 113}, {114, 127}, {7920, 7927}, {46328, 46337}, {46337, 46337}, {46338, 46337}, {46349, 46337}, {HIGH, 46337}};
        for (int[] pair : primes) {
            Check.due("1: prime of " + pair[0], heap(pair[0]).count(0), pair[1]);
        }
        PolynomialHeap fresh = heap(7);
        for (int r = 0; r < 12; r++) {
            Check.due("1: register " + r + " at first", fresh.terms(r), 0);
        }
        Check.due("1: nothing refused at first", fresh.count(4), 0);
    }

    private static void constant() {
        int[][] rows = {{7, 3, 3}, {7, 7, 0}, {7, 8, 1}, {7, -1, 6}, {7, -7, 0}, {7, -8, 6}, {2, -3, 1}, {46337, -1, 46336},
            {46337, HIGH, 41719}, {46337, LOW, 4617}, {7, LOW, 5}, {7, HIGH, 1}};
        for (int[] row : rows) {
            PolynomialHeap x = heap(row[0]);
            x.variable(11, 1);
            x.constant(11, row[1]);
            reads("2: " + row[1] + " modulo " + row[0], x, 11, "" + row[2]);
        }
    }

    private static void variable() {
        PolynomialHeap x = heap(2);
        String[] names = {"1 x", "1 y", "1 z"};
        for (int v = 0; v < 3; v++) {
            x.variable(0, v);
            reads("3: variable " + v, x, 0, names[v]);
        }
        for (int v : NO_VARIABLES) {
            Check.thrown("3: variable " + v, Check.ARGUMENT, () -> x.variable(0, v));
        }
    }

    private static void add() {
        PolynomialHeap x = heap(7);
        Desk.write(x, 0, t(3, 2, 0, 0), t(1, 0, 1, 0), t(5, 0, 0, 0));
        Desk.write(x, 1, t(4, 2, 0, 0), t(2, 0, 0, 3));
        x.add(2, 0, 1, 1);
        reads("4: a term vanishes", x, 2, "2 z3 + 1 y + 5");
        x.add(2, 0, 1, -1);
        reads("4: below 0", x, 2, "5 z3 + 6 x2 + 1 y + 5");
        x.add(2, 0, 1, 0);
        reads("4: none of b", x, 2, "3 x2 + 1 y + 5");
        x.add(2, 0, 1, 7);
        reads("4: none of b, modulo p", x, 2, "3 x2 + 1 y + 5");
        x.add(0, 0, 1, LOW);
        reads("4: into a", x, 0, "3 z3 + 2 x2 + 1 y + 5");
        x.add(1, 0, 1, 2);
        reads("4: into b", x, 1, "3 x2 + 1 y + 5");
        x.add(1, 1, 1, 6);
        reads("4: into both", x, 1, "0");
        PolynomialHeap great = heap(46337);
        great.constant(0, -1);
        great.add(1, 0, 0, -1);
        reads("4: -1 + 1", great, 1, "0");
        great.add(1, 0, 0, -2);
        reads("4: -1 + 2", great, 1, "1");
    }

    private static void multiply() {
        PolynomialHeap x = heap(7);
        Desk.write(x, 0, t(1, 1, 0, 0), t(2, 0, 1, 0));
        Desk.write(x, 1, t(1, 1, 0, 0), t(5, 0, 1, 0), t(3, 0, 0, 0));
        Check.due("5", x.multiply(2, 0, 1), true);
        reads("5: x y vanishes", x, 2, "1 x2 + 3 y2 + 3 x + 6 y");
        Check.due("5", x.multiply(0, 0, 0), true);
        reads("5: into both", x, 0, "1 x2 + 4 x y + 4 y2");
        Check.due("5", x.multiply(1, 5, 1), true);
        reads("5: by 0", x, 1, "0");
        PolynomialHeap great = heap(46337);
        great.constant(0, -1);
        great.multiply(0, 0, 0);
        reads("5: -1 * -1", great, 0, "1");
        for (int v = 0; v < 3; v++) {
            PolynomialHeap y = heap(3);
            y.variable(0, v);
            y.power(1, 0, 6);
            Check.due("5: 12 of variable " + v, y.multiply(2, 1, 1), true);
            Check.due("5: 12 and 1", y.multiply(3, 2, 0), false);
            Check.due("5: 1 and 12", y.multiply(3, 0, 2), false);
            Check.due("5: 12 and a number", y.multiply(3, 2, 9), true);
        }
    }

    private static void power() {
        PolynomialHeap x = heap(5);
        Desk.write(x, 0, t(1, 1, 0, 0), t(2, 0, 0, 1));
        x.power(1, 0, 3);
        reads("6: of a sum", x, 1, "1 x3 + 1 x2 z + 2 x z2 + 3 z3");
        x.power(0, 0, 5);
        reads("6: into a", x, 0, "1 x5 + 2 z5");
        x.power(1, 0, 0);
        reads("6: to 0", x, 1, "1");
        x.power(1, 7, 0);
        reads("6: 0 to 0", x, 1, "1");
        x.power(1, 7, 100);
        reads("6: 0 to 100", x, 1, "0");
        x.power(1, 0, 1);
        reads("6: to 1", x, 1, "1 x5 + 2 z5");
        x.constant(2, 2);
        Check.due("6: a number to 99", x.power(3, 2, 99), true);
        reads("6: 2 to 99", x, 3, "3");
        x.power(3, 2, 100);
        reads("6: 2 to 100", x, 3, "1");
        for (int n : new int[] {-1, 101, LOW, HIGH}) {
            Check.thrown("6: to " + n, Check.ARGUMENT, () -> x.power(3, 2, n));
        }
        for (int v = 0; v < 3; v++) {
            x.variable(4, v);
            Check.due("6: to 12", x.power(5, 4, 12), true);
            Check.due("6: to 13", x.power(6, 4, 13), false);
            Check.due("6: a square to 7", x.power(6, 4, 2) && x.power(6, 6, 7), false);
            Check.due("6: a square to 6", x.power(6, 6, 6), true);
        }
    }

    private static void divide() {
        PolynomialHeap x = heap(7);
        Desk.write(x, 0, t(1, 2, 1, 0), t(1, 1, 2, 0), t(1, 0, 2, 0));
        Desk.write(x, 1, t(2, 1, 1, 0), t(5, 0, 0, 0));
        x.divide(2, 0, 1, true);
        reads("7: the quotient", x, 2, "4 x + 4 y");
        x.divide(2, 0, 1, false);
        reads("7: what is left", x, 2, "1 y2 + 1 x + 1 y");
        x.divide(3, 1, 0, true);
        reads("7: by a higher one", x, 3, "0");
        x.divide(3, 1, 0, false);
        reads("7: by a higher one, what is left", x, 3, "2 x y + 5");
        x.constant(4, 3);
        x.divide(3, 0, 4, true);
        reads("7: by a number", x, 3, "5 x2 y + 5 x y2 + 5 y2");
        x.divide(3, 0, 4, false);
        reads("7: by a number, what is left", x, 3, "0");
        x.divide(3, 9, 1, true);
        reads("7: of 0", x, 3, "0");
        x.divide(1, 0, 1, true);
        reads("7: into b", x, 1, "4 x + 4 y");
        x.divide(0, 0, 1, false);
        reads("7: into a", x, 0, "1 y2");
        x.divide(1, 1, 1, true);
        reads("7: by itself", x, 1, "1");
        Check.thrown("7: by 0", Check.ARGUMENT, () -> x.divide(3, 0, 9, true));
        Check.thrown("7: 0 by 0", Check.ARGUMENT, () -> x.divide(3, 9, 9, false));
        PolynomialHeap great = heap(46337);
        great.constant(0, 1);
        great.constant(1, -2);
        great.divide(2, 0, 1, true);
        reads("7: -1/2", great, 2, "23168");
    }

    /** Terms that are no multiple stay, while lower ones are divided; degrees above 12 come from division alone. */
    private static void divideFar() {
        PolynomialHeap x = heap(7);
        Desk.write(x, 0, t(1, 0, 0, 5), t(1, 2, 0, 0), t(1, 0, 0, 0));
        Desk.write(x, 1, t(1, 1, 0, 0), t(6, 0, 0, 0));
        x.divide(2, 0, 1, true);
        reads("7: below a term that stays", x, 2, "1 x + 1");
        x.divide(2, 0, 1, false);
        reads("7: below a term that stays, what is left", x, 2, "1 z5 + 2");

        Desk.write(x, 0, t(1, 12, 12, 12));
        Desk.write(x, 1, t(1, 1, 0, 0), t(6, 0, 0, 1));
        Desk.write(x, 2, t(1, 0, 1, 0), t(6, 0, 0, 1));
        x.divide(3, 0, 1, false);
        reads("7: 24 of z", x, 3, "1 y12 z24");
        x.divide(3, 3, 2, false);
        reads("7: 36 of z", x, 3, "1 z36");
        Check.due("7: degree 36", x.degree(3, 2), 36);
        Check.due("7: the greatest degree", x.count(3), 36);
        Check.due("7: at 3", x.value(3, 0, 0, 3), 1);
        Check.due("7: coefficient", x.coefficient(3, 0, 0, 36), 1);
        Check.due("7: then to 1", x.power(4, 3, 1), false);
        Check.due("7: then by 0", x.multiply(4, 3, 9), false);
        Check.due("7: then to 0", x.power(4, 3, 0), true);
        x.derive(4, 3, 2);
        reads("7: then derived", x, 4, "1 z35");
        x.add(4, 4, 3, 2);
        reads("7: then added", x, 4, "2 z36 + 1 z35");
        x.constant(5, 2);
        Check.due("7: a number put in", x.put(4, 4, 2, 5), true);
        reads("7: a number put in", x, 4, "6");
    }

    /** What is left has far more terms than fit degrees up to 12. */
    private static void divideLong() {
        PolynomialHeap x = heap(46337);
        Desk.write(x, 0, t(1, 1, 0, 0), t(1, 0, 1, 0), t(1, 0, 0, 1), t(1, 0, 0, 0));
        Desk.write(x, 1, t(1, 0, 1, 0), t(1, 0, 0, 1), t(1, 0, 0, 0));
        x.constant(5, 1);
        for (int v = 0; v < 3; v++) {
            x.variable(2, v);
            x.constant(3, 1);
            x.add(2, 2, 3, 1);
            x.power(2, 2, 12);
            x.multiply(5, 5, 2);
        }
        Check.due("7: as many terms as there are up to 12", x.terms(5), 2197);
        x.power(6, 0, 12);
        x.power(7, 1, 12);
        x.divide(5, 5, 6, false);
        Check.due("7: many terms", x.terms(5), 4330);
        x.divide(5, 5, 7, false);
        Check.due("7: many terms", x.terms(5), 3451);
        Check.due("7: x and y below 12", x.degree(5, 0) == 11 && x.degree(5, 1) == 11, true);
        x.divide(8, 5, 0, false);
        x.divide(9, 5, 0, true);
        Check.due("7: left has no x", x.degree(8, 0), 0);
        long whole = (long) x.value(9, 2, 3, 5) * x.value(0, 2, 3, 5) + x.value(8, 2, 3, 5);
        Check.due("7: quotient * b + what is left", whole % 46337, (long) x.value(5, 2, 3, 5));
    }

    private static void derive() {
        PolynomialHeap x = heap(7);
        int[][] terms = {t(3, 3, 0, 0), t(1, 7, 1, 0), t(2, 0, 0, 5), t(4, 1, 0, 0), t(5, 0, 0, 0), t(1, 8, 0, 2)};
        String[] wants = {"1 x7 z2 + 2 x2 + 4", "1 x7", "2 x8 z + 3 z4"};
        for (int v = 0; v < 3; v++) {
            Desk.write(x, 0, terms);
            x.derive(1, 0, v);
            reads("8: by " + v, x, 1, wants[v]);
            x.derive(0, 0, v);
            reads("8: into a by " + v, x, 0, wants[v]);
        }
        x.derive(3, 9, 0);
        reads("8: of 0", x, 3, "0");
        for (int v : NO_VARIABLES) {
            Check.thrown("8: by " + v, Check.ARGUMENT, () -> x.derive(0, 0, v));
        }
        PolynomialHeap two = heap(2);
        Desk.write(two, 0, t(1, 2, 0, 0), t(1, 3, 1, 0), t(1, 4, 0, 0));
        two.derive(0, 0, 0);
        reads("8: modulo 2", two, 0, "1 x2 y");
    }

    private static void put() {
        PolynomialHeap x = heap(7);
        int[][] outer = {t(1, 2, 1, 0), t(3, 1, 0, 0), t(1, 0, 0, 1), t(5, 0, 0, 0)};
        Desk.write(x, 1, t(1, 1, 0, 0), t(6, 0, 1, 0));
        String[] wants = {"1 x2 y + 5 x y2 + 1 y3 + 3 x + 4 y + 1 z + 5", "1 x3 + 6 x2 y + 3 x + 1 z + 5", "1 x2 y + 4 x + 6 y + 5"};
        for (int v = 0; v < 3; v++) {
            Desk.write(x, 0, outer);
            Check.due("9: for " + v, x.put(2, 0, v, 1), true);
            reads("9: for " + v, x, 2, wants[v]);
            Check.due("9: into a", x.put(0, 0, v, 1), true);
            reads("9: into a for " + v, x, 0, wants[v]);
        }
        Desk.write(x, 0, outer);
        x.put(1, 0, 0, 1);
        reads("9: into b", x, 1, wants[0]);
        Desk.write(x, 0, t(1, 2, 0, 0), t(1, 0, 0, 0));
        x.put(0, 0, 0, 0);
        reads("9: into itself", x, 0, "1 x4 + 2 x2 + 2");
        x.put(2, 0, 0, 9);
        reads("9: 0 put in", x, 2, "2");
        Check.due("9: put into 0", x.put(2, 9, 0, 0), true);
        reads("9: put into 0", x, 2, "0");
        for (int v : NO_VARIABLES) {
            Check.thrown("9: for " + v, Check.ARGUMENT, () -> x.put(0, 0, v, 1));
        }
    }

    private static void putAtBounds() {
        PolynomialHeap x = heap(7);
        Desk.write(x, 0, t(1, 3, 0, 0));
        Desk.write(x, 1, t(1, 4, 4, 4));
        Check.due("9: 3 times 4", x.put(2, 0, 0, 1), true);
        reads("9: 3 times 4", x, 2, "1 x12 y12 z12");
        Desk.write(x, 3, t(1, 3, 1, 0));
        Check.due("9: 3 times 4 and 1", x.put(2, 3, 0, 1), false);
        Desk.write(x, 3, t(1, 3, 0, 0), t(1, 0, 1, 0));
        Check.due("9: also where no term comes so far", x.put(2, 3, 0, 1), false);
        Desk.write(x, 3, t(1, 3, 0, 0), t(1, 2, 0, 0));
        Desk.write(x, 4, t(1, 5, 0, 0));
        Check.due("9: 3 times 5", x.put(2, 3, 0, 4), false);
        Desk.write(x, 3, t(1, 12, 0, 0));
        Desk.write(x, 4, t(1, 1, 0, 0), t(1, 0, 0, 1));
        Check.due("9: 12 of v itself and 1 of the same", x.put(2, 3, 0, 4), true);
        reads("9: (x + z) to 12", x, 2, "1 x12 + 5 x11 z + 3 x10 z2 + 3 x9 z3 + 5 x8 z4 + 1 x7 z5 + 1 x5 z7"
            + " + 5 x4 z8 + 3 x3 z9 + 3 x2 z10 + 5 x z11 + 1 z12");
        Check.due("9: without v", x.put(5, 1, 2, 2), false);
        Desk.write(x, 1, t(1, 4, 4, 0));
        Check.due("9: no v in a", x.put(5, 1, 2, 2), true);
        reads("9: no v in a", x, 5, "1 x4 y4");
    }

    private static void resultant() {
        PolynomialHeap x = heap(46337);
        Desk.write(x, 0, t(1, 2, 0, 0), t(1, 0, 1, 0));
        Desk.write(x, 1, t(1, 1, 0, 0), t(-1, 0, 0, 1));
        Check.due("10", x.resultant(2, 0, 1, 0), true);
        reads("10: x2 + y, x - z", x, 2, "1 z2 + 1 y");
        x.resultant(2, 0, 1, 1);
        reads("10: m = 1, n = 0: b itself", x, 2, "1 x + 46336 z");
        x.resultant(2, 1, 0, 1);
        reads("10: m = 0, n = 1: a itself", x, 2, "1 x + 46336 z");
        x.resultant(2, 0, 0, 2);
        reads("10: m + n = 0", x, 2, "1");
        x.resultant(2, 0, 0, 0);
        reads("10: of the same", x, 2, "0");
        Desk.write(x, 3, t(2, 0, 0, 2), t(3, 1, 0, 1), t(5, 0, 1, 0));
        x.derive(4, 3, 2);
        x.resultant(5, 3, 4, 2);
        reads("10: with the derivative", x, 5, "46319 x2 + 80 y");
        x.resultant(0, 0, 1, 0);
        reads("10: into a", x, 0, "1 z2 + 1 y");
        x.resultant(1, 3, 1, 2);
        reads("10: into b", x, 1, "5 x2 + 5 y");
        for (int v : NO_VARIABLES) {
            Check.thrown("10: by " + v, Check.ARGUMENT, () -> x.resultant(5, 3, 4, v));
        }
        Check.thrown("10: of 0 and b", Check.ARGUMENT, () -> x.resultant(5, 9, 4, 0));
        Check.thrown("10: of a and 0", Check.ARGUMENT, () -> x.resultant(5, 4, 9, 0));
        Check.thrown("10: of 0 and 0", Check.ARGUMENT, () -> x.resultant(5, 9, 9, 1));
    }

    /** Rows changed about would tell by the sign: for odd m and n the two orders differ. */
    private static void resultantSigns() {
        PolynomialHeap x = heap(46337);
        Desk.write(x, 0, t(1, 1, 0, 0), t(-1, 0, 1, 0));
        Desk.write(x, 1, t(1, 1, 0, 0), t(-1, 0, 0, 1));
        x.resultant(2, 0, 1, 0);
        reads("10: x - y, x - z", x, 2, "1 y + 46336 z");
        x.resultant(2, 1, 0, 0);
        reads("10: x - z, x - y", x, 2, "46336 y + 1 z");
        Desk.write(x, 0, t(1, 3, 0, 0), t(2, 0, 0, 0));
        Desk.write(x, 1, t(1, 1, 0, 0), t(-1, 0, 1, 0));
        x.resultant(2, 0, 1, 0);
        reads("10: x3 + 2, x - y", x, 2, "46336 y3 + 46335");
        x.resultant(2, 1, 0, 0);
        reads("10: x - y, x3 + 2", x, 2, "1 y3 + 2");
        Desk.write(x, 0, t(1, 4, 0, 0), t(-1, 0, 1, 0));
        Desk.write(x, 1, t(1, 4, 0, 0), t(-1, 0, 0, 1));
        x.resultant(2, 0, 1, 0);
        reads("10: eight rows", x, 2, "1 y4 + 46333 y3 z + 6 y2 z2 + 46333 y z3 + 1 z4");
        Desk.write(x, 0, t(3, 8, 0, 0), t(1, 1, 0, 0));
        x.constant(1, 2);
        x.resultant(2, 0, 1, 0);
        reads("10: a number eight times", x, 2, "256");
        x.resultant(2, 1, 0, 0);
        reads("10: a number eight times, first", x, 2, "256");
    }

    private static void resultantAtBounds() {
        PolynomialHeap x = heap(7);
        Desk.write(x, 0, t(1, 4, 0, 0), t(1, 0, 1, 0));
        Desk.write(x, 1, t(1, 5, 0, 0));
        Check.thrown("10: nine rows", Check.ARGUMENT, () -> x.resultant(2, 0, 1, 0));
        Desk.write(x, 1, t(1, 4, 0, 0), t(1, 0, 2, 0));
        Check.due("10: 4 and 8", x.resultant(2, 0, 1, 0), true);
        Desk.write(x, 1, t(1, 4, 0, 0), t(1, 0, 2, 1));
        Desk.write(x, 0, t(1, 4, 0, 0), t(1, 0, 1, 2));
        Check.due("10: both others at 12", x.resultant(2, 0, 1, 0), true);
        Check.due("10: the last of 12", x.degree(2, 1) == 8 && x.degree(2, 2) == 8, true);
        Desk.write(x, 1, t(1, 4, 0, 0), t(1, 0, 2, 2));
        Check.due("10: 8 and 8", x.resultant(2, 0, 1, 0), false);
        Desk.write(x, 0, t(1, 1, 6, 0));
        Desk.write(x, 1, t(1, 1, 7, 0));
        Check.due("10: 6 and 7", x.resultant(2, 0, 1, 0), false);
        Check.due("10: v itself has no bound", x.resultant(2, 0, 1, 2), true);
        for (int v = 0; v < 3; v++) {
            for (int u = 0; u < 3; u++) {
                boundOfOther(v, u, 6, true);
                boundOfOther(v, u, 7, v == u);
            }
        }
        Desk.write(x, 0, t(1, 0, 12, 12));
        Desk.write(x, 1, t(1, 2, 0, 0));
        Check.due("10: twice 12", x.resultant(2, 0, 1, 0), false);
        Desk.write(x, 1, t(1, 1, 0, 0), t(1, 0, 0, 0));
        Check.due("10: once 12", x.resultant(2, 0, 1, 0), true);
        reads("10: once 12", x, 2, "1 y12 z12");
        Check.thrown("10: twelve rows", Check.ARGUMENT, () -> x.resultant(2, 0, 1, 1));
        Desk.write(x, 0, t(1, 5, 12, 0));
        Desk.write(x, 1, t(1, 4, 12, 0));
        Check.thrown("10: nine rows, before the bound", Check.ARGUMENT, () -> x.resultant(2, 0, 1, 0));
        Desk.write(x, 1, t(1, 0, 0, 2));
        Check.due("10: none of a's rows", x.resultant(2, 0, 1, 0), true);
        reads("10: none of a's rows", x, 2, "1 z10");
    }

    /** Of v u^6 and v u^e by v; for u = v of v and v^2, which have no other variable. */
    private static void boundOfOther(int v, int u, int e, boolean want) {
        PolynomialHeap x = heap(7);
        x.variable(0, v);
        x.variable(1, u);
        x.power(2, 1, v == u ? 0 : 6);
        x.power(3, 1, v == u ? 1 : e);
        x.multiply(2, 0, 2);
        x.multiply(3, 0, 3);
        Check.due("10: by " + v + ", 6 and " + e + " of " + u, x.resultant(4, 2, 3, v), want);
    }

    private static void value() {
        PolynomialHeap x = heap(7);
        Desk.write(x, 0, t(3, 2, 0, 1), t(1, 0, 3, 0), t(5, 0, 0, 0));
        Check.due("11", x.value(0, 2, 3, 4), (3 * 4 * 4 + 27 + 5) % 7);
        Check.due("11: below 0", x.value(0, -5, -4, -3), (3 * 4 * 4 + 27 + 5) % 7);
        Check.due("11: at 0", x.value(0, 0, 0, 0), 5);
        Check.due("11: far", x.value(0, LOW, HIGH, LOW), (3 * 25 * 5 + 1 + 5) % 7);
        Check.due("11: of 0", x.value(1, 1, 2, 3), 0);
        PolynomialHeap great = heap(46337);
        Desk.write(great, 0, t(-1, 1, 1, 1), t(-1, 0, 0, 0));
        Check.due("11: great factors", great.value(0, -1, -1, -1), 0);
        Check.due("11: great factors", great.value(0, -1, -1, 1), 46335);
    }

    private static void terms() {
        PolynomialHeap x = heap(5);
        Check.due("12: of 0", x.terms(0), 0);
        Desk.write(x, 0, t(1, 1, 0, 0), t(1, 0, 1, 0), t(1, 0, 0, 0));
        Check.due("12", x.terms(0), 3);
        x.power(0, 0, 5);
        Check.due("12: most vanish", x.terms(0), 3);
        x.constant(0, 5);
        Check.due("12: a number that is 0", x.terms(0), 0);
    }

    private static void term() {
        PolynomialHeap x = heap(11);
        Desk.write(x, 0, t(1, 0, 0, 0), t(2, 0, 0, 1), t(3, 0, 1, 0), t(4, 1, 0, 0), t(5, 0, 0, 3), t(6, 1, 1, 0),
            t(7, 0, 2, 0), t(8, 1, 0, 1), t(9, 2, 0, 0), t(10, 0, 0, 2), t(1, 0, 1, 1));
        reads("13: the order", x, 0, "5 z3 + 9 x2 + 6 x y + 8 x z + 7 y2 + 1 y z + 10 z2 + 4 x + 3 y + 2 z + 1");
        Desk.write(x, 1, t(4, 3, 1, 2), t(5, 0, 0, 0));
        int[] want = {4, 3, 1, 2};
        for (int what = 0; what < 4; what++) {
            Check.due("13: what = " + what, x.term(1, 0, what), want[what]);
        }
        for (int i : new int[] {-1, 2, LOW, HIGH}) {
            Check.thrown("13: term " + i, Check.INDEX, () -> x.term(1, i, 0));
            Check.thrown("13: term " + i + " before what", Check.INDEX, () -> x.term(1, i, 4));
        }
        for (int what : new int[] {-1, 4, LOW, HIGH}) {
            Check.thrown("13: what = " + what, Check.ARGUMENT, () -> x.term(1, 1, what));
        }
        Check.thrown("13: none of 0", Check.INDEX, () -> x.term(5, 0, 0));
    }

    private static void coefficient() {
        PolynomialHeap x = heap(11);
        Desk.write(x, 0, t(4, 3, 1, 2), t(5, 0, 0, 0), t(7, 12, 12, 12));
        Check.due("14", x.coefficient(0, 3, 1, 2), 4);
        Check.due("14: another order", x.coefficient(0, 1, 3, 2), 0);
        Check.due("14: the number", x.coefficient(0, 0, 0, 0), 5);
        Check.due("14: the highest", x.coefficient(0, 12, 12, 12), 7);
        Check.due("14: of 0", x.coefficient(1, 0, 0, 0), 0);
        int[][] far = {{37, 0, 0}, {0, 64, 0}, {0, 0, 64}, {3, 0, 66}, {3, 0, 65}, {HIGH, HIGH, HIGH}, {HIGH, 1, 0}, {0, HIGH, 2},
            {36, 36, 36}, {HIGH, HIGH, 2}, {1 << 26, 0, 0}, {0, 1 << 26, 1 << 20}, {12, 12, 13}};
        for (int[] e : far) {
            Check.due("14: far " + e[0] + " " + e[1] + " " + e[2], Check.outcome(() -> x.coefficient(0, e[0], e[1], e[2])), 0);
        }
        // Exponents that would look like those of x4, y4 and x4 z8 if their bits ran into one another.
        Desk.write(x, 2, t(2, 4, 0, 0), t(3, 0, 4, 0), t(4, 4, 0, 8));
        Check.due("14: like x4", x.coefficient(2, (1 << 20) + 4, 0, 0), 0);
        Check.due("14: like y4", x.coefficient(2, 0, (4 << 12) + 4, 0), 0);
        Check.due("14: like x4 z8", x.coefficient(2, 0, 0, (4 << 18) + (4 << 12) + 8), 0);
        for (int e : new int[] {-1, LOW}) {
            Check.thrown("14: e0 = " + e, Check.ARGUMENT, () -> x.coefficient(0, e, 0, 0));
            Check.thrown("14: e1 = " + e, Check.ARGUMENT, () -> x.coefficient(0, 0, e, HIGH));
            Check.thrown("14: e2 = " + e, Check.ARGUMENT, () -> x.coefficient(0, HIGH, 0, e));
        }
    }

    private static void degree() {
        PolynomialHeap x = heap(11);
        Desk.write(x, 0, t(4, 3, 1, 2), t(5, 0, 2, 0), t(7, 0, 0, 6));
        Check.due("15: of x", x.degree(0, 0), 3);
        Check.due("15: of y", x.degree(0, 1), 2);
        Check.due("15: of z", x.degree(0, 2), 6);
        Check.due("15: of 0", x.degree(1, 2), 0);
        for (int v : NO_VARIABLES) {
            Check.thrown("15: of " + v, Check.ARGUMENT, () -> x.degree(0, v));
        }
    }

    private static void isSame() {
        PolynomialHeap x = heap(11);
        Desk.write(x, 0, t(4, 3, 1, 2), t(5, 0, 2, 0));
        Desk.write(x, 1, t(5, 0, 2, 0), t(4, 3, 1, 2));
        Check.due("16: made another way", x.isSame(0, 1), true);
        Check.due("16: itself", x.isSame(0, 0), true);
        Desk.write(x, 1, t(5, 0, 2, 0), t(3, 3, 1, 2));
        Check.due("16: another coefficient", x.isSame(0, 1), false);
        Desk.write(x, 1, t(5, 0, 1, 0), t(4, 3, 1, 2));
        Check.due("16: another monomial", x.isSame(0, 1), false);
        Desk.write(x, 1, t(4, 3, 1, 2));
        Check.due("16: a term less", x.isSame(0, 1), false);
        Desk.write(x, 1, t(4, 3, 1, 2), t(5, 0, 2, 0), t(1, 0, 0, 0));
        Check.due("16: a term more", x.isSame(0, 1), false);
        Check.due("16: both 0", x.isSame(4, 5), true);
        Check.due("16: one 0", x.isSame(4, 0), false);
    }

    private static void count() {
        PolynomialHeap x = heap(12);
        int[] fresh = {13, 0, 12, 0, 0};
        for (int what = 0; what < 5; what++) {
            Check.due("17: of a new object, " + what, x.count(what), fresh[what]);
        }
        for (int v = 0; v < 3; v++) {
            x.variable(11 * (v % 2), v);
            Check.due("17: the greatest degree, of " + v, x.count(3), 1);
            x.constant(11 * (v % 2), 0);
        }
        Desk.write(x, 0, t(4, 3, 1, 2), t(5, 0, 2, 0));
        Desk.write(x, 4, t(4, 0, 0, 7));
        x.constant(5, 3);
        Check.due("17: terms", x.count(1), 4);
        Check.due("17: registers that are 0", x.count(2), 9);
        Check.due("17: the greatest degree", x.count(3), 7);
        x.power(6, 4, 2);
        x.multiply(6, 4, 4);
        x.put(6, 4, 2, 4);
        x.variable(7, 0);
        x.power(7, 7, 8);
        x.add(8, 7, 4, 1);
        x.variable(9, 1);
        x.multiply(9, 9, 4);
        x.resultant(6, 9, 9, 1);
        Check.due("17: calls that answered false", x.count(4), 4);
        x.multiply(6, 0, 0);
        Check.thrown("17: a call that throws", Check.ARGUMENT, () -> x.power(6, 4, 101));
        Check.due("17: neither those that did it nor those that threw", x.count(4), 4);
        for (int what : new int[] {-1, 5, LOW, HIGH}) {
            Check.due("17: NONE of " + what, x.count(what), PolynomialHeap.NONE);
        }
    }

    private static void registersThatAreNot() {
        PolynomialHeap x = heap(7);
        Desk.write(x, 0, t(1, 1, 0, 0), t(1, 0, 0, 0));
        for (int no : NO_REGISTERS) {
            Check.Deed[] calls = {
                () -> x.constant(no, 1), () -> x.variable(no, 0),
                () -> x.add(no, 0, 0, 1), () -> x.add(0, no, 0, 1), () -> x.add(0, 0, no, 1),
                () -> x.multiply(no, 0, 0), () -> x.multiply(0, no, 0), () -> x.multiply(0, 0, no),
                () -> x.power(no, 0, 1), () -> x.power(0, no, 1),
                () -> x.divide(no, 0, 0, true), () -> x.divide(0, no, 0, true), () -> x.divide(0, 0, no, false),
                () -> x.derive(no, 0, 0), () -> x.derive(0, no, 0),
                () -> x.put(no, 0, 0, 0), () -> x.put(0, no, 0, 0), () -> x.put(0, 0, 0, no),
                () -> x.resultant(no, 0, 0, 0), () -> x.resultant(0, no, 0, 0), () -> x.resultant(0, 0, no, 0),
                () -> x.value(no, 0, 0, 0), () -> x.terms(no), () -> x.term(no, 0, 0), () -> x.coefficient(no, 0, 0, 0),
                () -> x.degree(no, 0), () -> x.isSame(no, 0), () -> x.isSame(0, no)};
            for (int i = 0; i < calls.length; i++) {
                Check.thrown("register " + no + ", call " + i, Check.INDEX, calls[i]);
            }
        }
        reads("register 0 afterwards", x, 0, "1 x + 1");
    }

    private static void registersBeforeOtherNumbers() {
        PolynomialHeap x = heap(7);
        Check.Deed[] calls = {
            () -> x.variable(12, 3), () -> x.power(12, 0, -1), () -> x.power(0, 12, 101),
            () -> x.divide(12, 0, 0, true), () -> x.divide(0, 12, 0, true),
            () -> x.derive(12, 0, 3), () -> x.derive(0, 12, 3),
            () -> x.put(12, 0, 3, 0), () -> x.put(0, 12, 3, 0), () -> x.put(0, 0, 3, 12),
            () -> x.resultant(12, 0, 0, 3), () -> x.resultant(0, 12, 0, 3), () -> x.resultant(0, 0, 12, 3),
            () -> x.term(12, 0, 4), () -> x.coefficient(12, -1, 0, 0), () -> x.degree(12, 3)};
        for (int i = 0; i < calls.length; i++) {
            Check.thrown("first the register, call " + i, Check.INDEX, calls[i]);
        }
    }

    private static void wrongCallsChangeNothing() {
        PolynomialHeap x = heap(7);
        Desk.write(x, 0, t(2, 1, 0, 0), t(1, 0, 0, 0));
        Check.Deed[] calls = {
            () -> x.variable(0, 3), () -> x.power(0, 0, -1), () -> x.divide(0, 0, 5, true), () -> x.derive(0, 0, 3),
            () -> x.put(0, 0, 3, 0), () -> x.resultant(0, 0, 0, 3), () -> x.resultant(0, 0, 5, 0)};
        for (int i = 0; i < calls.length; i++) {
            Check.thrown("wrong call " + i, Check.ARGUMENT, calls[i]);
            reads("after wrong call " + i, x, 0, "2 x + 1");
        }
        x.add(1, 0, 5, 1);
        reads("the next sum", x, 1, "2 x + 1");
    }

    private static void refusedCallsChangeNothing() {
        PolynomialHeap x = heap(7);
        Desk.write(x, 0, t(1, 7, 7, 0), t(3, 1, 1, 1));
        Check.due("refused", x.multiply(0, 0, 0), false);
        Check.due("refused", x.power(0, 0, 2), false);
        Check.due("refused", x.put(0, 0, 0, 0), false);
        Check.due("refused", x.resultant(0, 0, 0, 2), false);
        reads("after refused calls", x, 0, "1 x7 y7 + 3 x y z");
        x.add(1, 0, 5, 1);
        reads("the next sum", x, 1, "1 x7 y7 + 3 x y z");
        Check.due("refused calls", x.count(4), 4);
    }
}
