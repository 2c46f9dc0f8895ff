/** Promises 1 to 10: each sentence that names an edge, at it, just below it and just above it. */
public final class EdgesOfMakingTest {
    private static final int LOW = Integer.MIN_VALUE;
    private static final int HIGH = Integer.MAX_VALUE;
    private static final int GREATEST_PRIME = 46337;
    private static final int[] PRIMES = {2, 3, 5, 7, 46327, 46337};
    private static final int[] NO_VARIABLES = {-1, 3, LOW, HIGH};
    private static final String[] NAMES = {"x", "y", "z"};

    public static void main(String[] args) {
        theLeastPrimeThatIsNotBelow();
        primesEndAt46337();
        aNumberModuloP();
        variablesAre0To2();
        mModuloP();
        addHasNoBound();
        boundOfAProduct();
        boundOfAProductWith0();
        powersAre0To100();
        toThePowerOf0();
        boundOfAPower();
        asLongAsSomeMonomialIsAMultiple();
        theHighestSuchTerm();
        divisionBy0();
        divisionHasNoBound();
        degreesUpTo36();
        afterDegreesAbove12();
        derivedModuloP();
        derivedBy0To2();
        putForVariables0To2();
        boundOfPutInOtherVariables();
        boundOfPutInVItself();
        boundOfPutAbove12();
        putWithout();
        resultantByVariables0To2();
        resultantOf0();
        oneWhenThereAreNoRows();
        atMostEightRows();
        rowsOfAlone();
        boundOfAResultant();
        theBoundIsNotOfV();
        boundOfAResultantWithoutRows();
        Check.end();
    }

    private static int[] t(int coefficient, int e0, int e1, int e2) {
        return Desk.t(coefficient, e0, e1, e2);
    }

    /** A term that has v to the power of d, u to the power of e. */
    private static int[] of(int coefficient, int v, int d, int u, int e) {
        int[] term = {coefficient, 0, 0, 0};
        term[1 + v] += d;
        term[1 + u] += e;
        return term;
    }

    /** Register r, 0 .. 6, becomes v to the power of e, 12 .. 36, for y and z; modulo 46337. Registers 7 .. 9 are used up. */
    private static Scene far(int r, int v, int e) {
        return Scene.modulo(GREATEST_PRIME).with(r, t(1, 12, 12, 12))
            .with(8, v == 2 ? t(1, 1, 0, 0) : t(1, 1, 0, 1), v == 2 ? t(-1, 0, 0, 1) : t(-1, 0, 2, 0))
            .with(9, v == 2 ? t(1, 0, 1, 0) : t(1, 0, 0, 1), v == 2 ? t(-1, 0, 0, 1) : t(-1, 0, 0, 0))
            .after(x -> {
                x.divide(r, r, 8, false);
                x.divide(r, r, 9, false);
                for (int i = 36; i > e; i--) {
                    x.derive(r, r, v);
                    x.constant(7, i);
                    x.divide(r, r, 7, true);
                }
            });
    }

    /** 1: "The prime p is the least one that is not below least" */
    private static void theLeastPrimeThatIsNotBelow() {
        int[] small = {LOW, -46337, -2, -1, 0, 1, 2};
        for (int least : small) {
            Check.due("1: least " + least, new PolynomialHeap(least).count(0), 2);
        }
        int last = 2;
        for (int n = 3; n <= GREATEST_PRIME; n++) {
            if (isPrime(n)) {
                Check.due("1: just above " + last, new PolynomialHeap(last + 1).count(0), n);
                Check.due("1: just below " + n, new PolynomialHeap(n - 1).count(0), n - 1 == last ? last : n);
                Check.due("1: at " + n, new PolynomialHeap(n).count(0), n);
                last = n;
            }
        }
    }

    private static boolean isPrime(int n) {
        for (int d = 2; d * d <= n; d++) {
            if (n % d == 0) {
                return false;
            }
        }
        return true;
    }

    /** 1: "46337, if that is above it" */
    private static void primesEndAt46337() {
        int[][] rows = {{46326, 46327}, {46327, 46327}, {46328, 46337}, {46336, 46337}, {46337, 46337}, {46338, 46337},
            {46339, 46337}, {46348, 46337}, {46349, 46337}, {46350, 46337}, {65536, 46337}, {HIGH - 1, 46337}, {HIGH, 46337}};
        for (int[] row : rows) {
            Check.due("1: least " + row[0], new PolynomialHeap(row[0]).count(0), row[1]);
        }
    }

    /** 2: "a number, modulo p (0 .. p - 1, also of one below 0)" */
    private static void aNumberModuloP() {
        for (int p : PRIMES) {
            int[] numbers = {0, 1, p - 1, p, p + 1, 2 * p - 1, 2 * p, -1, 1 - p, -p, -p - 1, LOW, LOW + 1, HIGH, HIGH - 1};
            for (int c : numbers) {
                String want = "" + (((long) c % p + p) % p);
                Scene.modulo(p).doing("2: " + c + " modulo " + p, 11, want, x -> x.constant(11, c));
            }
        }
    }

    /** 3: "variable v, 0 .. 2" */
    private static void variablesAre0To2() {
        for (int v = 0; v < 3; v++) {
            int which = v;
            Scene.modulo(2).doing("3: variable " + v, 11, "1 " + NAMES[v], x -> x.variable(11, which));
        }
        for (int v : NO_VARIABLES) {
            Scene.modulo(2).throwing("3: variable " + v, Check.ARGUMENT, x -> x.variable(11, v));
        }
    }

    /** 4: "m modulo p" */
    private static void mModuloP() {
        for (int p : PRIMES) {
            int[] numbers = {0, 1, p - 1, p, p + 1, -1, 1 - p, -p, -p - 1, LOW, HIGH};
            for (int m : numbers) {
                long due = ((long) m % p + p) % p;
                String want = "1 x" + (due == 0 ? "" : " + " + due + " y");
                Scene.modulo(p).doing("4: " + m + " modulo " + p, 2, want, x -> x.add(2, 0, 1, m));
                // -1 and m times 1: what is 0 has no term.
                long sum = (p - 1 + due) % p;
                Scene.modulo(p).with(3, t(p - 1, 0, 0, 0)).with(4, t(1, 0, 0, 0))
                    .doing("4: -1 and " + m + " modulo " + p, 2, "" + sum, x -> x.add(2, 3, 4, m));
            }
        }
    }

    /** 4: no bound is told, so degrees of 12 and above stand in sums. */
    private static void addHasNoBound() {
        Scene.modulo(7).with(3, t(1, 12, 12, 12)).with(4, t(2, 12, 12, 12))
            .doing("4: degree 12", 5, "3 x12 y12 z12", x -> x.add(5, 3, 4, 1));
        for (int v = 1; v < 3; v++) {
            for (int e : new int[] {13, 35, 36}) {
                String power = NAMES[v] + e;
                far(3, v, e)
                    .doing("4: degree " + e, 4, "1 " + power + " + 1 x", x -> x.add(4, 0, 3, 1))
                    .doing("4: degree " + e, 4, "1 " + power, x -> x.add(4, 3, 0, 0))
                    .doing("4: degree " + e, 4, "2 " + power, x -> x.add(4, 3, 3, 1));
            }
        }
    }

    /** 5: "Bound of each variable: the sum of both degrees." */
    private static void boundOfAProduct() {
        for (int v = 0; v < 3; v++) {
            for (int d = 0; d <= 12; d++) {
                for (int sum = Math.max(11, d); sum <= Math.min(13, d + 12); sum++) {
                    boundOfAProduct(v, d, sum - d);
                }
            }
        }
        Scene.modulo(7).with(0, t(1, 12, 12, 12)).with(1, t(3, 0, 0, 0))
            .making("5: 12 of each and a number", 2, "3 x12 y12 z12", x -> x.multiply(2, 0, 1));
    }

    /** v^d u^6 + 1 and v^e u^6: of u it is 12. */
    private static void boundOfAProduct(int v, int d, int e) {
        int u = (v + 1) % 3;
        String what = "5: " + d + " and " + e + " of " + v;
        Scene scene = Scene.modulo(7).with(0, of(1, v, d, u, 6), t(1, 0, 0, 0)).with(1, of(1, v, e, u, 6));
        if (d + e > 12) {
            scene.refusing(what, x -> x.multiply(2, 0, 1)).refusing(what + " into b", x -> x.multiply(1, 0, 1));
        } else {
            scene.looking(x -> {
                Check.due(what, x.multiply(2, 0, 1), true);
                Check.due(what + ", degree", x.degree(2, v), d + e);
                Check.due(what + ", terms", x.terms(2), 2);
                Check.due(what + ", value", x.value(2, 1, 1, 1), 2);
            });
        }
    }

    /** 5: the bound holds also where the product is 0. */
    private static void boundOfAProductWith0() {
        Scene.modulo(7).with(0, t(1, 12, 12, 12)).with(1)
            .making("5: 12 times 0", 2, "0", x -> x.multiply(2, 0, 1))
            .making("5: 0 times 12", 2, "0", x -> x.multiply(2, 1, 0));
        far(3, 2, 12).with(1).making("5: z12 times 0", 2, "0", x -> x.multiply(2, 3, 1));
        far(3, 2, 13).with(1)
            .refusing("5: z13 times 0", x -> x.multiply(2, 3, 1))
            .refusing("5: 0 times z13", x -> x.multiply(2, 1, 3));
    }

    /** 6: "to the power of n, 0 .. 100" */
    private static void powersAre0To100() {
        int[][] rows = {{0, 1}, {1, 3}, {2, 2}, {99, 6}, {100, 4}};
        for (int[] row : rows) {
            Scene.modulo(7).with(0, t(3, 0, 0, 0)).making("6: 3 to " + row[0], 2, "" + row[1], x -> x.power(2, 0, row[0]));
        }
        for (int n : new int[] {-1, 101, -100, LOW, HIGH}) {
            Scene.modulo(7).with(0, t(3, 0, 0, 0)).with(1).with(3, t(1, 1, 0, 0))
                .throwing("6: a number to " + n, Check.ARGUMENT, x -> x.power(2, 0, n))
                .throwing("6: x to " + n, Check.ARGUMENT, x -> x.power(3, 3, n));
            Scene.modulo(7).with(1).throwing("6: 0 to " + n, Check.ARGUMENT, x -> x.power(2, 1, n));
        }
    }

    /** 6: "(to 0: 1)" */
    private static void toThePowerOf0() {
        Scene.modulo(2).with(1).with(3, t(1, 12, 12, 12)).with(4, t(1, 0, 0, 0))
            .making("6: 0 to 0", 2, "1", x -> x.power(2, 1, 0))
            .making("6: 1 to 0", 2, "1", x -> x.power(2, 4, 0))
            .making("6: degree 12 to 0", 2, "1", x -> x.power(2, 3, 0));
        far(3, 1, 36).making("6: y36 to 0", 2, "1", x -> x.power(2, 3, 0));
        Scene.modulo(2).with(1)
            .making("6: 0 to 1", 2, "0", x -> x.power(2, 1, 1))
            .making("6: 0 to 100", 2, "0", x -> x.power(2, 1, 100));
    }

    /** 6: "Bound: n times the degree." */
    private static void boundOfAPower() {
        int[][] done = {{1, 11}, {1, 12}, {2, 5}, {2, 6}, {3, 3}, {3, 4}, {4, 2}, {4, 3}, {5, 2}, {6, 1}, {6, 2}, {7, 1}, {11, 1}, {12, 1}};
        int[][] refused = {{1, 13}, {1, 99}, {1, 100}, {2, 7}, {3, 5}, {4, 4}, {5, 3}, {6, 3}, {7, 2}, {11, 2}, {12, 2}, {12, 100}};
        for (int v = 0; v < 3; v++) {
            for (int[] row : done) {
                int e = row[0] * row[1];
                String want = "1 " + NAMES[v] + e;
                Scene.modulo(7).with(0, of(1, v, row[0], v, 0))
                    .making("6: " + NAMES[v] + row[0] + " to " + row[1], 2, want, x -> x.power(2, 0, row[1]));
            }
            for (int[] row : refused) {
                Scene.modulo(7).with(0, of(1, v, row[0], v, 0), t(1, 0, 0, 0))
                    .refusing("6: " + NAMES[v] + row[0] + " to " + row[1], x -> x.power(2, 0, row[1]));
            }
        }
        far(3, 2, 12).making("6: z12 to 1", 2, "1 z12", x -> x.power(2, 3, 1));
        far(3, 2, 13).refusing("6: z13 to 1", x -> x.power(2, 3, 1)).refusing("6: z13 to 100", x -> x.power(3, 3, 100));
        far(3, 1, 36).refusing("6: y36 to 1", x -> x.power(2, 3, 1));
    }

    /** 7: "as long as some monomial of a is a multiple of that of b's highest term" */
    private static void asLongAsSomeMonomialIsAMultiple() {
        for (int v = 0; v < 3; v++) {
            int[] exponents = {4, 4, 4};
            for (int e = 3; e <= 5; e++) {
                exponents[v] = e;
                int more = e - 4;
                Scene scene = Scene.modulo(7).with(0, t(3, exponents[0], exponents[1], exponents[2])).with(1, t(2, 4, 4, 4));
                String what = "7: " + e + " by 4 of " + v;
                String whole = Desk.text(3, exponents[0], exponents[1], exponents[2]);
                scene.doing(what, 2, more < 0 ? "0" : "5" + (more == 0 ? "" : " " + NAMES[v]), x -> x.divide(2, 0, 1, true))
                    .doing(what + ", what is left", 2, more < 0 ? whole : "0", x -> x.divide(2, 0, 1, false));
            }
        }
        // One step after another, until what is left is below b's highest term.
        Scene.modulo(7).with(0, t(1, 12, 0, 0)).with(1, t(1, 1, 0, 0), t(6, 0, 0, 0))
            .doing("7: twelve steps", 2, "1 x11 + 1 x10 + 1 x9 + 1 x8 + 1 x7 + 1 x6 + 1 x5 + 1 x4 + 1 x3 + 1 x2 + 1 x + 1",
                x -> x.divide(2, 0, 1, true))
            .doing("7: twelve steps, what is left", 2, "1", x -> x.divide(2, 0, 1, false));
    }

    /** 7: "of the highest such term": higher ones that are no multiple stay, and those between do, too. */
    private static void theHighestSuchTerm() {
        Scene.modulo(7).with(0, t(1, 0, 0, 9), t(1, 2, 0, 0), t(1, 0, 2, 0), t(1, 1, 0, 0), t(1, 0, 0, 0))
            .with(1, t(2, 1, 0, 0), t(4, 0, 0, 0))
            .doing("7: the quotient", 2, "4 x + 3", x -> x.divide(2, 0, 1, true))
            .doing("7: what is left", 2, "1 z9 + 1 y2 + 3", x -> x.divide(2, 0, 1, false));
        // b's highest term is the one with the greater sum, not the one with the greater e0.
        Scene.modulo(7).with(0, t(1, 2, 2, 0)).with(1, t(1, 1, 0, 0), t(1, 0, 2, 0))
            .doing("7: b's highest term", 2, "1 x2", x -> x.divide(2, 0, 1, true))
            .doing("7: b's highest term, what is left", 2, "6 x3", x -> x.divide(2, 0, 1, false));
        // What is taken away makes a new multiple that a did not have.
        Scene.modulo(7).with(0, t(1, 2, 0, 0)).with(1, t(1, 1, 0, 0), t(1, 0, 1, 0))
            .doing("7: a new multiple", 2, "1 x + 6 y", x -> x.divide(2, 0, 1, true))
            .doing("7: a new multiple, what is left", 2, "1 y2", x -> x.divide(2, 0, 1, false));
    }

    /** 7: "IllegalArgumentException when b is 0." */
    private static void divisionBy0() {
        for (boolean quotient : new boolean[] {true, false}) {
            Scene.modulo(7).with(1)
                .throwing("7: by 0", Check.ARGUMENT, x -> x.divide(2, 0, 1, quotient))
                .throwing("7: by 0 into a", Check.ARGUMENT, x -> x.divide(0, 0, 1, quotient));
            Scene.modulo(7).with(1)
                .throwing("7: by 0 into b", Check.ARGUMENT, x -> x.divide(1, 0, 1, quotient))
                .throwing("7: 0 by 0", Check.ARGUMENT, x -> x.divide(2, 1, 1, quotient));
            Scene.modulo(7).with(1, t(7, 0, 0, 0))
                .throwing("7: by 7 modulo 7", Check.ARGUMENT, x -> x.divide(2, 0, 1, quotient));
            Scene.modulo(7).with(1, t(1, 0, 0, 0)).with(3)
                .doing("7: by 1", 2, quotient ? "1 x" : "0", x -> x.divide(2, 0, 1, quotient))
                .doing("7: 0 by 1", 2, "0", x -> x.divide(2, 3, 1, quotient));
            Scene.modulo(7).with(1, t(6, 0, 0, 0))
                .doing("7: by 6", 2, quotient ? "6 x" : "0", x -> x.divide(2, 0, 1, quotient));
        }
    }

    /** 7: "no bound is told: what is left may have degrees above 12 in a variable" */
    private static void divisionHasNoBound() {
        Scene.modulo(7).with(0, t(1, 1, 0, 11)).with(1, t(1, 1, 0, 0), t(6, 0, 0, 1))
            .doing("7: z12 is left", 2, "1 z12", x -> x.divide(2, 0, 1, false));
        Scene.modulo(7).with(0, t(1, 1, 0, 12)).with(1, t(1, 1, 0, 0), t(6, 0, 0, 1))
            .doing("7: z13 is left", 2, "1 z13", x -> x.divide(2, 0, 1, false))
            .doing("7: z12 is the quotient", 3, "1 z12", x -> x.divide(3, 0, 1, true));
        Scene.modulo(7).with(0, t(1, 2, 0, 12)).with(1, t(1, 1, 0, 0), t(6, 0, 0, 1))
            .doing("7: z14 is left", 2, "1 z14", x -> x.divide(2, 0, 1, false))
            .doing("7: z13 is in the quotient", 3, "1 x z12 + 1 z13", x -> x.divide(3, 0, 1, true));
        // x grows where a term with a smaller sum is left.
        Scene.modulo(7).with(0, t(1, 12, 3, 0)).with(1, t(1, 0, 3, 0), t(6, 2, 0, 0))
            .doing("7: x14 is left", 2, "1 x14", x -> x.divide(2, 0, 1, false));
    }

    /** 7: "up to 36" */
    private static void degreesUpTo36() {
        for (int v = 1; v < 3; v++) {
            String power = "1 " + NAMES[v] + 36;
            int which = v;
            far(3, v, 36)
                .answering("7: " + power, 36, x -> x.degree(3, which))
                .answering("7: " + power, 36, x -> x.count(3))
                .answering("7: " + power, 36, x -> x.term(3, 0, 1 + which))
                .answering("7: " + power, 1, x -> x.coefficient(3, 0, which == 1 ? 36 : 0, which == 2 ? 36 : 0))
                .doing("7: " + power + " by x3", 2, power, x -> x.divide(2, 3, 6, false))
                .doing("7: " + power + " by itself", 2, "1", x -> x.divide(2, 3, 3, true));
        }
        // Of x there is 35 at the most: x36 would be higher than what it came from.
        far(3, 1, 36).with(0, t(1, 12, 12, 12))
            .with(4, t(1, 0, 3, 0), t(-1, 2, 0, 0)).with(5, t(1, 0, 0, 3), t(-1, 2, 0, 0)).with(6, t(1, 0, 12, 12))
            .after(x -> {
                x.divide(4, 0, 4, false);
                x.divide(4, 4, 5, false);
                for (int e = 28; e > 23; e--) {
                    x.derive(4, 4, 0);
                    x.constant(7, e);
                    x.divide(4, 4, 7, true);
                }
                x.add(6, 6, 4, -1);
            })
            .answering("7: x23", 23, x -> x.degree(4, 0))
            .doing("7: x35 is left", 2, "1 x35", x -> x.divide(2, 0, 6, false));
    }

    /** 7: what division has left is read by the other calls as any polynomial is. */
    private static void afterDegreesAbove12() {
        far(3, 2, 36)
            .doing("8: z36", 2, "36 z35", x -> x.derive(2, 3, 2))
            .answering("11: z36 at 2", (int) ((1L << 36) % GREATEST_PRIME), x -> x.value(3, 0, 0, 2))
            .answering("11: z36 at -1", 1, x -> x.value(3, 5, 5, -1));
        far(3, 2, 35)
            .answering("11: z35 at -1", GREATEST_PRIME - 1, x -> x.value(3, 5, 5, -1))
            .answering("14: z35", 1, x -> x.coefficient(3, 0, 0, 35))
            .answering("14: z36", 0, x -> x.coefficient(3, 0, 0, 36))
            .answering("16: z35 and z2", false, x -> x.isSame(3, 2));
    }

    /** 8: exponents are reckoned modulo p, so at p there is no term. */
    private static void derivedModuloP() {
        for (int p : new int[] {2, 3, 5, 7, 11}) {
            for (int v = 0; v < 3; v++) {
                for (int e : new int[] {0, 1, 2, p - 1, p, p + 1, 12}) {
                    int which = v;
                    String want = e % p == 0 ? "0" : Desk.text(e % p, v == 0 ? e - 1 : 0, v == 1 ? e - 1 : 0, v == 2 ? e - 1 : 0);
                    Scene.modulo(p).with(0, of(1, v, e, v, 0))
                        .doing("8: " + NAMES[v] + e + " modulo " + p, 2, want, x -> x.derive(2, 0, which))
                        .doing("8: by another variable", 2, "0", x -> x.derive(2, 0, (which + 1) % 3));
                }
            }
        }
        Scene.modulo(2).with(0).doing("8: of 0", 2, "0", x -> x.derive(2, 0, 0));
        Scene.modulo(2).with(0, t(1, 0, 0, 0)).doing("8: of 1", 2, "0", x -> x.derive(2, 0, 0));
    }

    /** 8: "by variable v" */
    private static void derivedBy0To2() {
        String[] wants = {"1 y z", "1 x z", "1 x y"};
        for (int v = 0; v < 3; v++) {
            int which = v;
            Scene.modulo(7).with(0, t(1, 1, 1, 1)).doing("8: by " + v, 2, wants[v], x -> x.derive(2, 0, which));
        }
        for (int v : NO_VARIABLES) {
            Scene.modulo(7).with(1)
                .throwing("8: by " + v, Check.ARGUMENT, x -> x.derive(2, 0, v))
                .throwing("8: of 0 by " + v, Check.ARGUMENT, x -> x.derive(1, 1, v));
        }
    }

    /** 9: "in place of variable v" */
    private static void putForVariables0To2() {
        String[] wants = {"2 y z", "2 x z", "2 x y"};
        for (int v = 0; v < 3; v++) {
            int which = v;
            Scene.modulo(7).with(0, t(1, 1, 1, 1)).with(1, t(2, 0, 0, 0))
                .making("9: for " + v, 2, wants[v], x -> x.put(2, 0, which, 1));
        }
        for (int v : NO_VARIABLES) {
            Scene.modulo(7).with(1)
                .throwing("9: for " + v, Check.ARGUMENT, x -> x.put(2, 0, v, 3))
                .throwing("9: 0 for " + v, Check.ARGUMENT, x -> x.put(0, 0, v, 1));
        }
    }

    /** 9: "Bound of variable u: a's degree in u and a's degree in v times b's in u." */
    private static void boundOfPutInOtherVariables() {
        int[][] rows = {{0, 1, 11}, {0, 1, 12}, {1, 1, 11}, {1, 1, 12}, {5, 2, 3}, {6, 2, 3}, {7, 2, 3}, {11, 1, 1}, {12, 1, 1}, {10, 1, 1},
            {12, 1, 0}, {12, 12, 0}, {0, 12, 1}, {1, 12, 1}, {0, 3, 4}, {1, 3, 4}, {0, 2, 6}, {0, 2, 7}, {12, 0, 12}, {11, 0, 12}};
        for (int[] row : rows) {
            for (int v = 0; v < 3; v++) {
                for (int more = 1; more < 3; more++) {
                    boundOfPut(v, (v + more) % 3, row);
                }
            }
        }
    }

    /** a = v^d + u^k: no term comes as far as the bound, which is the sum of both. */
    private static void boundOfPut(int v, int u, int[] row) {
        int k = row[0];
        int d = row[1];
        int e = row[2];
        int bound = k + d * e;
        String what = "9: " + k + " and " + d + " times " + e + " of " + u + " for " + v;
        Scene scene = Scene.modulo(7).with(0, of(1, v, d, u, 0), of(2, u, k, u, 0)).with(1, of(1, u, e, u, 0));
        if (bound > 12) {
            scene.refusing(what, x -> x.put(2, 0, v, 1)).refusing(what + " into a", x -> x.put(0, 0, v, 1));
        } else {
            scene.looking(x -> {
                Check.due(what, x.put(2, 0, v, 1), true);
                Check.due(what + ", degree", x.degree(2, u), Math.max(k, d * e));
                Check.due(what + ", value", x.value(2, 1, 1, 1), 3);
            });
        }
    }

    /** 9: "(0 for v itself)" */
    private static void boundOfPutInVItself() {
        int[][] rows = {{12, 1}, {11, 1}, {6, 2}, {5, 2}, {4, 3}, {3, 4}, {2, 6}, {1, 12}, {1, 11}, {12, 0}, {0, 12},
            {7, 2}, {5, 3}, {4, 4}, {3, 5}, {2, 7}, {12, 2}, {12, 12}};
        for (int[] row : rows) {
            for (int v = 0; v < 3; v++) {
                int which = v;
                int e = row[0] * row[1];
                String what = "9: " + row[0] + " times " + row[1] + " of " + v + " itself";
                Scene scene = Scene.modulo(7).with(0, of(1, v, row[0], v, 0)).with(1, of(1, v, row[1], v, 0));
                if (e > 12) {
                    scene.refusing(what, x -> x.put(2, 0, which, 1)).refusing(what + " into b", x -> x.put(1, 0, which, 1));
                } else {
                    scene.making(what, 2, Desk.text(1, v == 0 ? e : 0, v == 1 ? e : 0, v == 2 ? e : 0), x -> x.put(2, 0, which, 1));
                }
            }
        }
    }

    /** 9: the bound where a or b has a degree above 12 already. */
    private static void boundOfPutAbove12() {
        far(3, 2, 13)
            .refusing("9: a's 13 in another variable", x -> x.put(2, 3, 0, 1))
            .refusing("9: 13 times 1", x -> x.put(2, 3, 2, 0))
            .refusing("9: 1 times 13", x -> x.put(2, 0, 0, 3));
        far(3, 2, 12)
            .making("9: a's 12 in another variable", 2, "1 z12", x -> x.put(2, 3, 0, 1))
            .making("9: 12 times 1", 2, "1 x12", x -> x.put(2, 3, 2, 0))
            .making("9: 1 times 12", 4, "1 z12", x -> x.put(4, 0, 0, 3));
        far(3, 2, 36).with(1, t(-1, 0, 0, 0)).with(4)
            .making("9: 36 times 0 of a number", 2, "1", x -> x.put(2, 3, 2, 1))
            .making("9: 36 times 0 of 0", 2, "0", x -> x.put(2, 3, 2, 4))
            .making("9: 0 times 36", 2, "1 x", x -> x.put(2, 0, 1, 3));
    }

    /** 9: polynomials without v, numbers and 0, on either side. */
    private static void putWithout() {
        Scene.modulo(7).with(0, t(1, 1, 0, 0), t(3, 0, 0, 0)).with(1).with(3, t(5, 0, 0, 0))
            .making("9: a without v", 2, "1 x + 3", x -> x.put(2, 0, 1, 0))
            .making("9: 0 for v", 2, "3", x -> x.put(2, 0, 0, 1))
            .making("9: a number for v", 2, "1", x -> x.put(2, 0, 0, 3));
        Scene.modulo(7).with(0, t(1, 1, 0, 0)).with(1).with(3, t(5, 0, 0, 0))
            .making("9: into 0", 2, "0", x -> x.put(2, 1, 0, 0))
            .making("9: into a number", 2, "5", x -> x.put(2, 3, 0, 0))
            .making("9: 0 for x in x", 2, "0", x -> x.put(2, 0, 0, 1));
    }

    /** 10: "by variable v" */
    private static void resultantByVariables0To2() {
        String[] wants = {"6 y", "6 z", "6 x"};
        for (int v = 0; v < 3; v++) {
            int which = v;
            Scene.modulo(7).with(0, of(1, v, 1, (v + 1) % 3, 0), of(1, v, 0, (v + 1) % 3, 1)).with(1, of(1, v, 1, v, 0))
                .making("10: by " + v, 2, wants[v], x -> x.resultant(2, 0, 1, which));
        }
        for (int v : NO_VARIABLES) {
            Scene.modulo(7).with(0, t(1, 0, 0, 0)).with(1, t(2, 0, 0, 0))
                .throwing("10: by " + v, Check.ARGUMENT, x -> x.resultant(2, 0, 1, v))
                .throwing("10: into a by " + v, Check.ARGUMENT, x -> x.resultant(0, 0, 3, v));
        }
    }

    /** 10: "IllegalArgumentException also when a or b is 0" */
    private static void resultantOf0() {
        Scene.modulo(7).with(1).with(3, t(7, 0, 0, 0))
            .throwing("10: a is 0", Check.ARGUMENT, x -> x.resultant(2, 1, 0, 0))
            .throwing("10: b is 0", Check.ARGUMENT, x -> x.resultant(2, 0, 1, 0))
            .throwing("10: 7 modulo 7", Check.ARGUMENT, x -> x.resultant(0, 0, 3, 0));
        Scene.modulo(7).with(1).with(3, t(6, 0, 0, 0))
            .throwing("10: both are 0", Check.ARGUMENT, x -> x.resultant(1, 1, 1, 0))
            .throwing("10: 0 and a number", Check.ARGUMENT, x -> x.resultant(2, 1, 3, 0))
            .throwing("10: a number and 0", Check.ARGUMENT, x -> x.resultant(2, 3, 1, 0));
        Scene.modulo(7).with(1, t(1, 0, 0, 0)).with(3, t(6, 0, 0, 0))
            .making("10: x and 1", 2, "1", x -> x.resultant(2, 0, 1, 0))
            .making("10: x and 6", 2, "6", x -> x.resultant(2, 0, 3, 0))
            .making("10: 6 and x", 2, "6", x -> x.resultant(2, 3, 0, 0));
    }

    /** 10: "(1 when m + n is 0)" */
    private static void oneWhenThereAreNoRows() {
        Scene.modulo(7).with(0, t(3, 0, 0, 0)).with(1, t(5, 0, 0, 0)).with(3, t(2, 0, 12, 12))
            .making("10: two numbers", 2, "1", x -> x.resultant(2, 0, 1, 0))
            .making("10: both without x", 2, "1", x -> x.resultant(2, 3, 3, 0))
            .making("10: a number and one without x", 2, "1", x -> x.resultant(2, 0, 3, 0));
        far(3, 2, 36)
            .making("10: z36 by x", 2, "1", x -> x.resultant(2, 3, 3, 0))
            .making("10: z36 and y by x", 2, "1", x -> x.resultant(2, 3, 1, 0));
    }

    /** 10: "or m + n above 8". v^m and v^n + 2: the determinant is 2 to the power of m. */
    private static void atMostEightRows() {
        for (int m = 0; m <= 12; m++) {
            for (int n = Math.max(0, 6 - m); n <= 12; n++) {
                int v = (m + n) % 3;
                Scene scene = Scene.modulo(97).with(0, of(1, v, m, v, 0)).with(1, of(1, v, n, v, 0), t(2, 0, 0, 0));
                String what = "10: " + m + " and " + n + " rows";
                if (m + n > 8) {
                    scene.throwing(what, Check.ARGUMENT, x -> x.resultant(2, 0, 1, v))
                        .throwing(what + ", the other way", Check.ARGUMENT, x -> x.resultant(1, 1, 0, v));
                } else {
                    int due = n == 0 ? power(3, m) : power(2, m);
                    int other = m * n % 2 == 0 ? due : (97 - due) % 97;
                    scene.making(what, 2, "" + due, x -> x.resultant(2, 0, 1, v))
                        .making(what + ", the other way", 3, "" + other, x -> x.resultant(3, 1, 0, v));
                }
            }
        }
        far(3, 2, 13).throwing("10: thirteen rows", Check.ARGUMENT, x -> x.resultant(2, 3, 0, 2));
        far(3, 2, 36).throwing("10: 72 rows", Check.ARGUMENT, x -> x.resultant(2, 3, 3, 2));
    }

    private static int power(int base, int n) {
        int result = 1;
        for (int i = 0; i < n; i++) {
            result = result * base % 97;
        }
        return result;
    }

    /** 10: n rows of a's and m of b's: where one of both has no v there are rows of it alone. */
    private static void rowsOfAlone() {
        for (int n = 1; n <= 8; n++) {
            int rows = n;
            Scene.modulo(97).with(0, t(3, 0, 1, 0)).with(1, t(5, n, 0, 0), t(1, 0, 0, 0))
                .making("10: " + n + " rows of a's alone", 2, Desk.text(power(3, rows), 0, rows, 0), x -> x.resultant(2, 0, 1, 0))
                .making("10: " + n + " rows of b's alone", 2, Desk.text(power(3, rows), 0, rows, 0), x -> x.resultant(2, 1, 0, 0));
        }
    }

    /** 10: "Bound of each other variable: n times a's degree and m times b's." */
    private static void boundOfAResultant() {
        int[][] rows = {{1, 1, 6, 5}, {1, 1, 6, 6}, {1, 1, 6, 7}, {1, 1, 7, 6}, {1, 1, 12, 0}, {1, 1, 12, 1}, {1, 1, 0, 12}, {1, 1, 1, 12},
            {1, 2, 3, 6}, {1, 2, 3, 5}, {1, 2, 3, 7}, {2, 1, 6, 3}, {2, 1, 5, 3}, {2, 1, 7, 3}, {1, 2, 6, 0}, {1, 2, 6, 1}, {2, 1, 0, 6},
            {2, 1, 1, 6}, {2, 2, 3, 3}, {2, 2, 3, 4}, {2, 2, 4, 3}, {4, 4, 1, 2}, {4, 4, 2, 2}, {3, 5, 1, 2}, {3, 5, 2, 1}, {3, 3, 2, 2},
            {1, 7, 1, 5}, {1, 7, 1, 4}, {1, 7, 1, 6}, {0, 1, 12, 12}, {1, 0, 12, 12}, {0, 1, 11, 12}, {0, 2, 6, 12}, {0, 2, 7, 0},
            {2, 0, 12, 6}, {2, 0, 0, 7}, {0, 8, 1, 12}, {0, 8, 2, 0}, {8, 0, 12, 1}, {8, 0, 0, 2}};
        for (int[] row : rows) {
            for (int v = 0; v < 3; v++) {
                for (int more = 1; more < 3; more++) {
                    boundOfAResultant(v, (v + more) % 3, row);
                }
            }
        }
        // The determinant is 0, but the bound is 13.
        Scene.modulo(7).with(0, t(1, 1, 6, 0)).with(1, t(1, 1, 7, 0))
            .refusing("10: a bound above what comes out", x -> x.resultant(2, 0, 1, 0))
            .refusing("10: a bound above what comes out, into a", x -> x.resultant(0, 0, 1, 0));
    }

    /** v^m u^i + 1 and v^n u^j + 2, by v. */
    private static void boundOfAResultant(int v, int u, int[] row) {
        int m = row[0];
        int n = row[1];
        int bound = n * row[2] + m * row[3];
        String what = "10: " + m + ", " + n + " rows, degrees " + row[2] + ", " + row[3] + " of " + u + " by " + v;
        Scene scene = Scene.modulo(97).with(0, of(1, v, m, u, row[2]), t(1, 0, 0, 0)).with(1, of(1, v, n, u, row[3]), t(2, 0, 0, 0));
        if (bound > 12) {
            scene.refusing(what, x -> x.resultant(2, 0, 1, v)).refusing(what + " into b", x -> x.resultant(1, 0, 1, v));
        } else {
            scene.looking(x -> {
                Check.due(what, x.resultant(2, 0, 1, v), true);
                Check.due(what + ", no " + v, x.degree(2, v), 0);
                Check.due(what + ", degree", x.degree(2, u) <= bound, true);
                Check.due(what + ", calls that answered false", x.count(4), 0);
            });
        }
    }

    /** 10: "of each other variable": the degree in v itself is no matter. */
    private static void theBoundIsNotOfV() {
        Scene.modulo(7).with(0, t(1, 4, 0, 0)).with(1, t(1, 4, 0, 0), t(3, 0, 1, 0))
            .making("10: 4 times 4 of v itself", 2, "4 y4", x -> x.resultant(2, 0, 1, 0));
        Scene.modulo(7).with(0, t(1, 8, 0, 0)).with(1, t(2, 0, 0, 0))
            .making("10: 8 of v itself", 2, "4", x -> x.resultant(2, 0, 1, 0));
    }

    /** 10: the bound where a or b has a degree above 12 already. */
    private static void boundOfAResultantWithoutRows() {
        far(3, 2, 13).with(1, t(1, 1, 0, 0))
            .refusing("10: once 13 of a", x -> x.resultant(2, 3, 1, 0))
            .refusing("10: once 13 of b", x -> x.resultant(2, 1, 3, 0));
        far(3, 2, 12).with(1, t(1, 1, 0, 0))
            .making("10: once 12 of a", 2, "1 z12", x -> x.resultant(2, 3, 1, 0))
            .making("10: once 12 of b", 2, "1 z12", x -> x.resultant(2, 1, 3, 0));
    }
}
