/** Promises 11 to 17: each sentence that names an edge, at it, just below it and just above it. */
public final class EdgesOfAskingTest {
    private static final int LOW = Integer.MIN_VALUE;
    private static final int HIGH = Integer.MAX_VALUE;
    private static final int[] PRIMES = {2, 3, 7, 46327, 46337};
    private static final int[] NO_REGISTERS = {-1, 12, LOW, HIGH};

    public static void main(String[] args) {
        numbersModuloP();
        valueOfFewTerms();
        howManyTerms();
        termsFromTheHighestOn();
        noSuchTerm();
        whatOfATermIs0To3();
        firstTheTermThenWhat();
        coefficientOfAMonomial();
        itHasNone();
        exponentsBelow0();
        firstTheRegisterThenTheExponent();
        degreeInVariables0To2();
        theSamePolynomial();
        countOfOthers();
        countOfThePrime();
        countOfTerms();
        countOfZeros();
        countOfTheGreatestDegree();
        countOfCallsThatAnsweredFalse();
        noSuchRegister();
        Check.end();
    }

    private static int[] t(int coefficient, int e0, int e1, int e2) {
        return Desk.t(coefficient, e0, e1, e2);
    }

    /** 11: "at numbers (modulo p) for the variables" */
    private static void numbersModuloP() {
        for (int p : PRIMES) {
            int[] numbers = {0, 1, p - 1, p, p + 1, -1, 1 - p, -p, -p - 1, LOW, HIGH};
            for (int n : numbers) {
                int due = (int) (((long) n % p + p) % p);
                Scene.modulo(p)
                    .answering("11: x at " + n, due, x -> x.value(0, n, 1, 1))
                    .answering("11: y at " + n, due, x -> x.value(1, 1, n, 1))
                    .answering("11: z at " + n, due, x -> x.value(2, 1, 1, n));
                Scene.modulo(p).with(0, t(p - 1, 1, 1, 1))
                    .answering("11: -x y z at " + n, (int) ((p - 1) * ((long) due * due % p * due % p) % p), x -> x.value(0, n, n, n));
            }
        }
    }

    /** 11: of 0, of a number, of terms that come to p together, of degree 12. */
    private static void valueOfFewTerms() {
        Scene.modulo(7).with(0).with(1, t(6, 0, 0, 0)).with(3, t(6, 1, 0, 0), t(1, 0, 0, 0))
            .answering("11: of 0", 0, x -> x.value(0, 3, 4, 5))
            .answering("11: of a number", 6, x -> x.value(1, 3, 4, 5));
        Scene.modulo(7).with(3, t(6, 1, 0, 0), t(1, 0, 0, 0))
            .answering("11: just below p", 6, x -> x.value(3, 2, 0, 0))
            .answering("11: p", 0, x -> x.value(3, 1, 0, 0))
            .answering("11: above p", 1, x -> x.value(3, 0, 0, 0));
        Scene.modulo(46337).with(3, t(-1, 12, 12, 12), t(-1, 12, 12, 11), t(-1, 0, 0, 0))
            .answering("11: degree 12 at -1", 46336, x -> x.value(3, -1, -1, -1))
            .answering("11: degree 12 at 1", 46334, x -> x.value(3, 1, 1, 1))
            .answering("11: degree 12 at 0", 46336, x -> x.value(3, 0, 1, 1));
    }

    /** 12: none, one, and as many as there can be up to degree 12. */
    private static void howManyTerms() {
        Scene.modulo(7).with(0).with(1, t(6, 0, 0, 0)).with(3, t(1, 1, 0, 0), t(6, 0, 0, 0))
            .answering("12: of 0", 0, x -> x.terms(0))
            .answering("12: of a number", 1, x -> x.terms(1))
            .answering("12: of two", 2, x -> x.terms(3));
        PolynomialHeap x = new PolynomialHeap(46337);
        x.constant(5, 1);
        x.constant(3, 1);
        for (int v = 0; v < 3; v++) {
            x.variable(2, v);
            x.add(2, 2, 3, 1);
            x.power(2, 2, 12);
            x.multiply(5, 5, 2);
        }
        Check.due("12: of 13 * 13 * 13", x.terms(5), 2197);
        Check.due("13: the last of them", x.term(5, 2196, 0), 1);
        Check.due("13: the last of them", x.term(5, 2196, 1) + x.term(5, 2196, 2) + x.term(5, 2196, 3), 0);
        Check.thrown("13: none behind it", Check.INDEX, () -> x.term(5, 2197, 0));
        Check.due("17: terms of all registers", x.count(1), 2197 + 13 + 1);
    }

    private static Scene three() {
        return Scene.modulo(7).with(0, t(4, 3, 1, 2), t(5, 0, 2, 0), t(6, 0, 0, 0)).with(1);
    }

    /** 13: "Term i of a, the highest one being 0" */
    private static void termsFromTheHighestOn() {
        int[][] due = {{4, 3, 1, 2}, {5, 0, 2, 0}, {6, 0, 0, 0}};
        for (int i = 0; i < 3; i++) {
            for (int what = 0; what < 4; what++) {
                int which = i;
                int part = what;
                three().answering("13: term " + i + ", " + what, due[i][what], x -> x.term(0, which, part));
            }
        }
    }

    /** 13: "IndexOutOfBoundsException also when there is none" */
    private static void noSuchTerm() {
        for (int i : new int[] {-1, 3, 4, LOW, HIGH}) {
            for (int part = 0; part < 4; part++) {
                int what = part;
                three().throwing("13: term " + i + ", " + what, Check.INDEX, x -> x.term(0, i, what));
            }
        }
        for (int i : new int[] {-1, 0, 1, LOW, HIGH}) {
            three().throwing("13: term " + i + " of 0", Check.INDEX, x -> x.term(1, i, 0));
        }
        // Terms that a register has had before are none.
        three().after(x -> x.constant(0, 5))
            .answering("13: the only one", 5, x -> x.term(0, 0, 0))
            .throwing("13: one that was there before", Check.INDEX, x -> x.term(0, 1, 0));
    }

    /** 13: "what = 0 its coefficient, 1 .. 3 exponents"; "IllegalArgumentException for another what" */
    private static void whatOfATermIs0To3() {
        for (int what : new int[] {-1, 4, LOW, HIGH}) {
            three()
                .throwing("13: the first term, " + what, Check.ARGUMENT, x -> x.term(0, 0, what))
                .throwing("13: the last term, " + what, Check.ARGUMENT, x -> x.term(0, 2, what));
        }
    }

    /** 13: "else": the term comes before what. */
    private static void firstTheTermThenWhat() {
        for (int what : new int[] {-1, 4, LOW, HIGH}) {
            three()
                .throwing("13: no term, " + what, Check.INDEX, x -> x.term(0, 3, what))
                .throwing("13: term -1, " + what, Check.INDEX, x -> x.term(0, -1, what));
            three().throwing("13: no term of 0, " + what, Check.INDEX, x -> x.term(1, 0, what));
        }
    }

    /** 14: "The coefficient of a monomial in a": at it, and at its neighbours. */
    private static void coefficientOfAMonomial() {
        int[][] monomials = {{0, 0, 0}, {1, 0, 0}, {0, 1, 0}, {0, 0, 1}, {3, 1, 2}, {12, 0, 0}, {0, 12, 0}, {0, 0, 12}, {12, 12, 12}};
        for (int[] e : monomials) {
            Scene.modulo(7).with(0, t(4, e[0], e[1], e[2]))
                .answering("14: the monomial itself", 4, x -> x.coefficient(0, e[0], e[1], e[2]))
                .answering("14: one more of x", 0, x -> x.coefficient(0, e[0] + 1, e[1], e[2]))
                .answering("14: one more of y", 0, x -> x.coefficient(0, e[0], e[1] + 1, e[2]));
            Scene.modulo(7).with(0, t(4, e[0], e[1], e[2]))
                .answering("14: one more of z", 0, x -> x.coefficient(0, e[0], e[1], e[2] + 1))
                .answering("14: 64 more of z", 0, x -> x.coefficient(0, e[0], e[1], e[2] + 64))
                .answering("14: another variable", 0, x -> x.coefficient(0, e[1] + 1, e[2], e[0]));
            for (int v = 0; v < 3; v++) {
                int[] less = e.clone();
                less[v]--;
                if (less[v] >= 0) {
                    Scene.modulo(7).with(0, t(4, e[0], e[1], e[2]))
                        .answering("14: one less of " + v, 0, x -> x.coefficient(0, less[0], less[1], less[2]));
                }
            }
        }
        three()
            .answering("14: of three the first", 4, x -> x.coefficient(0, 3, 1, 2))
            .answering("14: of three the second", 5, x -> x.coefficient(0, 0, 2, 0))
            .answering("14: of three the last", 6, x -> x.coefficient(0, 0, 0, 0));
    }

    /** 14: "0 when it has none", however great the exponents are, and whatever their sum wraps around to. */
    private static void itHasNone() {
        int[] great = {13, 31, 32, 35, 36, 37, 63, 64, 65, 127, 128, 1 << 12, 1 << 18, 1 << 20, 1 << 26, 1 << 30, HIGH - 1, HIGH};
        for (int e : great) {
            int[][] places = {{e, 0, 0}, {0, e, 0}, {0, 0, e}, {e, e, 0}, {0, e, e}, {e, 0, e}, {e, e, e}, {e, e, 2}, {2, e, e}, {e, 2, e}};
            PolynomialHeap x = new PolynomialHeap(7);
            Desk.write(x, 0, t(4, 12, 12, 12), t(5, 2, 0, 0), t(6, 0, 2, 0), t(1, 0, 0, 2), t(3, 0, 0, 0));
            for (int[] place : places) {
                String what = "14: " + place[0] + " " + place[1] + " " + place[2];
                Check.due(what, Check.outcome(() -> x.coefficient(0, place[0], place[1], place[2])), 0);
                Check.due(what + " of 0", Check.outcome(() -> x.coefficient(1, place[0], place[1], place[2])), 0);
            }
        }
        // Sums of great exponents that wrap around to 0, 1, 2 and 36.
        int[][] sums = {{HIGH, HIGH, 2}, {HIGH, HIGH, 3}, {HIGH, HIGH, 4}, {2, HIGH, HIGH}, {HIGH, 2, HIGH}, {HIGH, HIGH, 38},
            {1 << 30, 1 << 30, HIGH}, {HIGH, 1, HIGH}, {HIGH, 1, 0}, {0, HIGH, 1}, {1, 0, HIGH}, {HIGH, 37, 0}};
        for (int[] e : sums) {
            three()
                .answering("14: " + e[0] + " " + e[1] + " " + e[2], 0, x -> x.coefficient(0, e[0], e[1], e[2]))
                .answering("14: of 0", 0, x -> x.coefficient(1, e[0], e[1], e[2]));
        }
    }

    /** 14: "IllegalArgumentException when an exponent is below 0" */
    private static void exponentsBelow0() {
        for (int e : new int[] {-1, -2, -12, LOW}) {
            for (int other : new int[] {0, 1, HIGH, -1}) {
                three()
                    .throwing("14: e0 = " + e, Check.ARGUMENT, x -> x.coefficient(0, e, other, other))
                    .throwing("14: e1 = " + e, Check.ARGUMENT, x -> x.coefficient(0, other, e, other))
                    .throwing("14: e2 = " + e, Check.ARGUMENT, x -> x.coefficient(0, other, other, e));
                three().throwing("14: of 0", Check.ARGUMENT, x -> x.coefficient(1, 0, other, e));
            }
        }
    }

    /** 14: "IndexOutOfBoundsException when there is no such register; else": also where an exponent is below 0. */
    private static void firstTheRegisterThenTheExponent() {
        for (int no : NO_REGISTERS) {
            three()
                .throwing("14: register " + no, Check.INDEX, x -> x.coefficient(no, -1, -1, -1))
                .throwing("14: register " + no, Check.INDEX, x -> x.coefficient(no, 0, 0, LOW))
                .throwing("14: register " + no, Check.INDEX, x -> x.coefficient(no, 0, HIGH, 0));
        }
    }

    /** 15: "IllegalArgumentException when v is not 0 .. 2", but first the register. */
    private static void degreeInVariables0To2() {
        three()
            .answering("15: of x", 3, x -> x.degree(0, 0))
            .answering("15: of y", 2, x -> x.degree(0, 1))
            .answering("15: of z", 2, x -> x.degree(0, 2));
        for (int v : new int[] {-1, 3, LOW, HIGH}) {
            three()
                .throwing("15: of " + v, Check.ARGUMENT, x -> x.degree(0, v))
                .throwing("15: of 0, " + v, Check.ARGUMENT, x -> x.degree(1, v));
            for (int no : NO_REGISTERS) {
                three().throwing("15: register " + no + ", " + v, Check.INDEX, x -> x.degree(no, v));
            }
        }
    }

    /** 16: one coefficient, one exponent, one term less or more: not the same. */
    private static void theSamePolynomial() {
        int[][] same = {t(4, 3, 1, 2), t(5, 0, 2, 0), t(6, 0, 0, 0)};
        isSame("itself", true, same);
        isSame("in another order", true, same[2], same[0], same[1]);
        isSame("modulo p", true, t(-3, 3, 1, 2), t(12, 0, 2, 0), t(-1, 0, 0, 0));
        isSame("the first coefficient", false, t(3, 3, 1, 2), same[1], same[2]);
        isSame("the last coefficient", false, same[0], same[1], t(5, 0, 0, 0));
        isSame("the first monomial", false, t(4, 3, 2, 1), same[1], same[2]);
        isSame("the last monomial", false, same[0], same[1], t(6, 0, 0, 1));
        isSame("without the first", false, same[1], same[2]);
        isSame("without the last", false, same[0], same[1]);
        isSame("one more, higher", false, same[0], same[1], same[2], t(1, 12, 12, 12));
        isSame("one more, lower", false, same[0], same[1], same[2], t(1, 0, 0, 1));
        isSame("0", false);
        Scene.modulo(7).with(0).with(1).with(3, t(1, 0, 0, 0))
            .answering("16: 0 and 0", true, x -> x.isSame(0, 1))
            .answering("16: 0 and 1", false, x -> x.isSame(0, 3))
            .answering("16: 1 and 0", false, x -> x.isSame(3, 0));
    }

    private static void isSame(String what, boolean want, int[]... other) {
        Scene.modulo(7).with(0, t(4, 3, 1, 2), t(5, 0, 2, 0), t(6, 0, 0, 0)).with(1, other)
            .answering("16: " + what, want, x -> x.isSame(0, 1))
            .answering("16: " + what + ", the other way", want, x -> x.isSame(1, 0))
            .answering("16: " + what + ", with itself", true, x -> x.isSame(1, 1));
    }

    /** 17: "NONE for others" */
    private static void countOfOthers() {
        for (int what : new int[] {-1, 5, 6, LOW, HIGH}) {
            three().answering("17: " + what, -1, x -> x.count(what));
            Check.due("17: " + what + " of a new object", new PolynomialHeap(7).count(what), PolynomialHeap.NONE);
        }
    }

    /** 17: "what = 0 the prime" */
    private static void countOfThePrime() {
        for (int p : PRIMES) {
            Scene.modulo(p).answering("17: the prime", p, x -> x.count(0));
        }
    }

    /** 17: "1 terms in all registers together": none, one in each, more in one. */
    private static void countOfTerms() {
        Check.due("17: no terms", new PolynomialHeap(7).count(1), 0);
        Scene.modulo(7)
            .answering("17: one in each", 12, x -> x.count(1))
            .after(x -> x.constant(0, 7)).answering("17: none in the first", 11, x -> x.count(1))
            .after(x -> x.constant(11, 0)).answering("17: nor in the last", 10, x -> x.count(1));
        three().answering("17: three, none and ten", 13, x -> x.count(1));
    }

    /** 17: "2 registers that are 0": all, all but one, none. */
    private static void countOfZeros() {
        for (int r = 0; r < 12; r++) {
            PolynomialHeap x = new PolynomialHeap(7);
            Check.due("17: all are 0", x.count(2), 12);
            x.constant(r, 1);
            Check.due("17: all but " + r, x.count(2), 11);
            x.constant(r, 7);
            Check.due("17: all again", x.count(2), 12);
            int zero = r;
            Scene.modulo(7)
                .answering("17: none is 0", 0, y -> y.count(2))
                .after(y -> y.constant(zero, 0)).answering("17: only " + r, 1, y -> y.count(2));
        }
    }

    /** 17: "3 the greatest degree that there is in any variable of any register" */
    private static void countOfTheGreatestDegree() {
        Check.due("17: degree of a new object", new PolynomialHeap(7).count(3), 0);
        for (int r = 0; r < 12; r++) {
            for (int v = 0; v < 3; v++) {
                PolynomialHeap x = new PolynomialHeap(7);
                x.constant(r, 1);
                Check.due("17: degree of a number", x.count(3), 0);
                x.variable(r, v);
                Check.due("17: degree of a variable", x.count(3), 1);
                x.power(r, r, 11);
                Check.due("17: degree 11", x.count(3), 11);
                x.variable(r, v);
                x.power(r, r, 12);
                Check.due("17: degree 12", x.count(3), 12);
                Check.due("17: refused", x.power(r, r, 2), false);
                Check.due("17: still degree 12", x.count(3), 12);
                x.constant(r, 0);
                Check.due("17: degree of what was there before", x.count(3), 0);
            }
        }
        // The degree in one variable, not the sum of exponents; and not that of the highest term alone.
        Scene.modulo(7).with(0, t(1, 3, 3, 3), t(1, 0, 5, 0)).answering("17: y5 below x3 y3 z3", 5, x -> x.count(3));
    }

    /** 17: "4 calls that answered false": of each kind, and none that was done or threw. */
    private static void countOfCallsThatAnsweredFalse() {
        Scene.Call[] refused = {x -> x.multiply(2, 0, 0), x -> x.power(2, 0, 2), x -> x.put(2, 0, 0, 0), x -> x.resultant(2, 0, 0, 0)};
        for (Scene.Call call : refused) {
            Scene.modulo(7).with(0, t(1, 1, 7, 0))
                .answering("17: none yet", 0, x -> x.count(4))
                .refusing("17: refused", call)
                .after(call::on).answering("17: one", 1, x -> x.count(4))
                .after(call::on).answering("17: two", 2, x -> x.count(4))
                .throwing("17: a call that throws", Check.ARGUMENT, x -> x.power(2, 0, 101))
                .making("17: a call that is done", 2, "1 x y7", x -> x.power(2, 0, 1));
        }
        Scene all = Scene.modulo(7).with(0, t(1, 1, 7, 0));
        for (int i = 0; i < refused.length; i++) {
            all.after(refused[i]::on).answering("17: one of each so far", i + 1, x -> x.count(4));
        }
    }

    /** 11: "IndexOutOfBoundsException when there is no such register"; 12: "Throws as value." */
    private static void noSuchRegister() {
        for (int no : NO_REGISTERS) {
            Scene.Deed[] calls = {x -> x.value(no, 0, 0, 0), x -> x.value(no, LOW, -1, HIGH), x -> x.terms(no), x -> x.term(no, 0, 0),
                x -> x.coefficient(no, 0, 0, 0), x -> x.degree(no, 0), x -> x.isSame(no, 0), x -> x.isSame(0, no), x -> x.isSame(no, no)};
            for (int i = 0; i < calls.length; i++) {
                three().throwing("no register " + no + ", call " + i, Check.INDEX, calls[i]);
            }
        }
        for (int r : new int[] {0, 11}) {
            Scene.modulo(7)
                .answering("11: register " + r, 1, x -> x.value(r, 1, 1, 1))
                .answering("12: register " + r, 1, x -> x.terms(r))
                .answering("16: register " + r, true, x -> x.isSame(r, r));
        }
    }
}
