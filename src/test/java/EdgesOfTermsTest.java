import java.util.ArrayList;
import java.util.List;

/** The document's section "Terms", and how long an object is used: each sentence that names an edge. */
public final class EdgesOfTermsTest {
    private static final int LOW = Integer.MIN_VALUE;
    private static final int HIGH = Integer.MAX_VALUE;
    private static final int[] PRIMES = {2, 3, 5, 7, 46327, 46337};
    private static final int[] NO_REGISTERS = {-1, 12, LOW, HIGH};

    /** A call with one number left open. */
    interface Place {
        Object call(PolynomialHeap heap, int number);
    }

    public static void main(String[] args) {
        anObjectIsUsedForAtMost512Calls();
        coefficientsAre0ToPLess1();
        higherIsTheGreaterSum();
        withTheSameSumTheGreaterE0();
        withTheSameE0TheGreaterE1();
        monomialsAbove12HaveTheSameOrder();
        noTermHasCoefficient0();
        itIs0WithoutTerms();
        theDegreeIsTheGreatestExponent();
        registersAreAtFirst0();
        inPlaceOfWhatWasThere();
        whatWasThereIsReadNoMore();
        nothingIsLeftOfACallBefore();
        anyNumberOfTerms();
        thisMayBeOneOfThoseThatTheyRead();
        registersAre0To11();
        registersComeBeforeOtherNumbers();
        otherNumbersComeBeforeTheBound();
        registersComeBeforeTheBound();
        falseWhenADegreeWouldBeAbove12();
        Check.end();
    }

    private static int[] t(int coefficient, int e0, int e1, int e2) {
        return Desk.t(coefficient, e0, e1, e2);
    }

    /** "An object is used for at most 512 calls after it has been made." */
    private static void anObjectIsUsedForAtMost512Calls() {
        PolynomialHeap refusing = new PolynomialHeap(7);
        refusing.variable(0, 2);
        for (int call = 2; call <= 511; call++) {
            Check.due("512 calls: call " + call, refusing.power(0, 0, 13), false);
        }
        Check.due("512 calls: 510 answered false", refusing.count(4), 510);

        PolynomialHeap adding = new PolynomialHeap(509);
        adding.constant(1, 1);
        for (int call = 2; call <= 511; call++) {
            adding.add(0, 0, 1, 1);
        }
        Check.due("512 calls: the last one, 510 modulo 509", adding.coefficient(0, 0, 0, 0), 1);

        PolynomialHeap dear = new PolynomialHeap(46337);
        dear.variable(0, 0);
        dear.variable(1, 1);
        dear.variable(2, 2);
        dear.constant(3, 1);
        dear.add(4, 0, 1, 1);
        dear.add(4, 4, 2, 1);
        dear.add(4, 4, 3, 1);
        dear.power(5, 4, 6);
        for (int call = 9; call <= 511; call++) {
            Check.due("512 dear calls: call " + call, dear.multiply(6, 5, 5), true);
        }
        Check.due("512 dear calls: the last one", dear.terms(6), 455);
    }

    /** "COEFFICIENTS are 0 .. p - 1, reckoned modulo the prime p." */
    private static void coefficientsAre0ToPLess1() {
        for (int p : PRIMES) {
            String what = "coefficients modulo " + p + ": ";
            Scene.modulo(p).with(0, t(p - 1, 0, 0, 0)).with(1, t(1, 0, 0, 0))
                .doing(what + "p - 1 stays", 2, "" + (p - 1), x -> x.add(2, 0, 1, 0))
                .doing(what + "p becomes 0", 2, "0", x -> x.add(2, 0, 1, 1))
                .doing(what + "p + 1 becomes 1", 2, "1", x -> x.add(2, 0, 1, 2))
                .making(what + "(p - 1) * (p - 1)", 2, "1", x -> x.multiply(2, 0, 0));
            Scene.modulo(p).with(0, t(p - 1, 0, 0, 0)).with(1, t(1, 0, 0, 0))
                .making(what + "p - 1 to 99", 2, "" + (p - 1), x -> x.power(2, 0, 99))
                .making(what + "p - 1 to 100", 2, "1", x -> x.power(2, 0, 100))
                .doing(what + "1 by p - 1", 2, "" + (p - 1), x -> x.divide(2, 1, 0, true))
                .doing(what + "p - 1 by p - 1", 2, "1", x -> x.divide(2, 0, 0, true));
            Scene.modulo(p).with(0, t(p - 1, 1, 0, 0), t(p - 1, 0, 0, 0)).with(1, t(p - 1, 0, 1, 0))
                .making(what + "p - 1 put in", 2, "1 y" + (p == 2 ? " + 1" : " + " + (p - 1)), x -> x.put(2, 0, 0, 1))
                .doing(what + "derived", 2, "" + (p - 1), x -> x.derive(2, 0, 0))
                .answering(what + "the value at p - 1", 0, x -> x.value(0, p - 1, 0, 0))
                .answering(what + "the value at p", p - 1, x -> x.value(0, p, 0, 0));
            Scene.modulo(p).with(0, t(1, 1, 0, 0), t(p - 1, 0, 1, 0)).with(1, t(p - 1, 1, 0, 0), t(p - 1, 0, 0, 0))
                .making(what + "a determinant", 2, "" + (p - 1) + " y + " + (p - 1), x -> x.resultant(2, 0, 1, 0));
        }
    }

    /** Both are written in both orders, and the first one is term 0. */
    private static void isHigher(String what, int[] higher, int[] lower) {
        for (int order = 0; order < 2; order++) {
            PolynomialHeap x = new PolynomialHeap(7);
            Desk.write(x, 0, order == 0 ? higher : lower, order == 0 ? lower : higher);
            for (int i = 0; i < 2; i++) {
                for (int part = 0; part < 4; part++) {
                    Check.due(what + ": term " + i + ", " + part, x.term(0, i, part), (i == 0 ? higher : lower)[part]);
                }
            }
        }
    }

    /** "Of two the one with the greater sum of exponents is HIGHER" */
    private static void higherIsTheGreaterSum() {
        int[][] pairs = {{0, 0, 1, 0, 0, 0}, {0, 0, 2, 1, 0, 0}, {0, 0, 2, 0, 1, 0}, {0, 2, 0, 1, 0, 0}, {0, 0, 12, 11, 0, 0},
            {0, 0, 8, 7, 0, 0}, {0, 4, 4, 7, 0, 0}, {0, 1, 12, 12, 0, 0}, {0, 12, 12, 12, 11, 0}, {0, 12, 12, 12, 0, 11},
            {12, 12, 12, 12, 12, 11}, {12, 12, 12, 12, 11, 12}, {11, 12, 12, 12, 12, 10}, {8, 8, 0, 7, 8, 0}};
        for (int[] e : pairs) {
            isHigher("the greater sum", t(2, e[0], e[1], e[2]), t(5, e[3], e[4], e[5]));
        }
    }

    /** "with the same sum the one with the greater e0" */
    private static void withTheSameSumTheGreaterE0() {
        int[][] pairs = {{1, 0, 0, 0, 1, 0}, {1, 0, 0, 0, 0, 1}, {1, 0, 1, 0, 2, 0}, {12, 0, 0, 11, 1, 0}, {12, 0, 0, 0, 12, 0},
            {12, 0, 12, 11, 12, 1}, {8, 0, 8, 7, 9, 0}, {4, 0, 12, 3, 12, 1}, {12, 11, 12, 11, 12, 12}, {2, 0, 12, 1, 12, 1}};
        for (int[] e : pairs) {
            isHigher("the same sum", t(2, e[0], e[1], e[2]), t(5, e[3], e[4], e[5]));
        }
    }

    /** "with the same e0, too, that with the greater e1" */
    private static void withTheSameE0TheGreaterE1() {
        int[][] pairs = {{0, 1, 0, 0, 0, 1}, {0, 12, 0, 0, 11, 1}, {0, 12, 0, 0, 0, 12}, {12, 12, 11, 12, 11, 12},
            {3, 8, 7, 3, 7, 8}, {12, 1, 11, 12, 0, 12}, {0, 4, 3, 0, 3, 4}, {5, 2, 1, 5, 1, 2}};
        for (int[] e : pairs) {
            isHigher("the same sum and e0", t(2, e[0], e[1], e[2]), t(5, e[3], e[4], e[5]));
        }
    }

    /** The same order where division has made degrees above 12: 24 and 36 of y, 24 and 36 of z. */
    private static void monomialsAbove12HaveTheSameOrder() {
        PolynomialHeap x = new PolynomialHeap(7);
        Desk.write(x, 0, t(1, 12, 12, 12));
        Desk.write(x, 1, t(1, 1, 0, 0), t(6, 0, 0, 1));
        Desk.write(x, 2, t(1, 1, 0, 0), t(6, 0, 1, 0));
        Desk.write(x, 3, t(1, 0, 1, 0), t(6, 0, 0, 1));
        Desk.write(x, 4, t(1, 1, 0, 1), t(6, 0, 2, 0));
        x.divide(5, 0, 1, false);
        x.divide(6, 0, 2, false);
        x.divide(7, 5, 3, false);
        x.divide(8, 0, 4, false);
        x.derive(9, 8, 1);
        for (int r = 5; r < 9; r++) {
            x.add(9, 9, r, r - 3);
        }
        x.add(9, 9, 0, 6);
        Check.due("order above 12", Desk.read(x, 9), "6 x12 y12 z12 + 5 y36 + 3 y24 z12 + 2 y12 z24 + 4 z36 + 1 y35");
    }

    /** "each a coefficient that is not 0 and a monomial, all different": one term vanishes, the others stay. */
    private static void noTermHasCoefficient0() {
        String what = "no term with coefficient 0: ";
        int[][] sum = {t(1, 1, 0, 0), t(2, 0, 1, 0), t(3, 0, 0, 0)};
        Scene.modulo(7).with(0, sum).with(1, t(1, 1, 0, 0))
            .doing(what + "the first of a sum", 2, "2 y + 3", x -> x.add(2, 0, 1, -1));
        Scene.modulo(7).with(0, sum).with(1, t(1, 0, 1, 0))
            .doing(what + "the middle one of a sum", 2, "1 x + 3", x -> x.add(2, 0, 1, 5));
        Scene.modulo(7).with(0, sum).with(1, t(1, 0, 0, 0))
            .doing(what + "the last of a sum", 2, "1 x + 2 y", x -> x.add(2, 0, 1, 4));
        Scene.modulo(7).with(0, t(1, 1, 0, 0), t(1, 0, 1, 0)).with(1, t(1, 1, 0, 0), t(6, 0, 1, 0))
            .making(what + "x y of a product", 2, "1 x2 + 6 y2", x -> x.multiply(2, 0, 1))
            .making(what + "all but two of a power", 2, "1 x7 + 1 y7", x -> x.power(2, 0, 7));
        Scene.modulo(7).with(0, t(1, 2, 0, 0), t(1, 0, 1, 0), t(1, 0, 0, 0)).with(1, t(1, 2, 0, 0), t(1, 0, 1, 0))
            .doing(what + "what division leaves", 2, "1", x -> x.divide(2, 0, 1, false));
        Scene.modulo(7).with(0, t(1, 3, 0, 0), t(1, 2, 0, 0), t(1, 0, 0, 0)).with(1, t(1, 1, 0, 0), t(1, 0, 0, 0))
            .doing(what + "x of a quotient", 2, "1 x2", x -> x.divide(2, 0, 1, true));
        Scene.modulo(7).with(0, t(1, 8, 0, 0), t(1, 7, 0, 0), t(1, 1, 0, 0))
            .doing(what + "7 x6 of a derivative", 2, "1 x7 + 1", x -> x.derive(2, 0, 0));
        Scene.modulo(7).with(0, t(1, 1, 0, 0), t(6, 0, 1, 0), t(1, 0, 0, 1)).with(1, t(1, 0, 1, 0))
            .making(what + "y when it is put in", 2, "1 z", x -> x.put(2, 0, 0, 1));
        Scene.modulo(7).with(0, t(1, 1, 0, 0), t(1, 0, 1, 0)).with(1, t(1, 1, 0, 0), t(1, 0, 1, 0), t(1, 0, 0, 1))
            .making(what + "y of a resultant", 2, "1 z", x -> x.resultant(2, 0, 1, 0));
    }

    /** "it is 0 without terms": every way to come to 0, from x + y in register 0 and 0 in register 1. */
    private static void itIs0WithoutTerms() {
        Scene.Deed[] ways = {
            x -> x.constant(2, 0), x -> x.constant(2, 7), x -> x.constant(2, -7),
            x -> x.add(2, 0, 0, -1), x -> x.add(2, 1, 1, 3), x -> x.add(2, 1, 0, 0), x -> x.add(2, 1, 0, 7),
            x -> x.multiply(2, 0, 1), x -> x.multiply(2, 1, 0), x -> x.multiply(2, 1, 1),
            x -> x.power(2, 1, 1), x -> x.power(2, 1, 100),
            x -> x.divide(2, 0, 0, false), x -> x.divide(2, 1, 0, false), x -> x.divide(2, 1, 0, true),
            x -> x.divide(2, 5, 0, true),
            x -> x.derive(2, 1, 0), x -> x.derive(2, 0, 2),
            x -> x.put(2, 1, 0, 0), x -> x.put(2, 3, 0, 1),
            x -> x.resultant(2, 0, 0, 0), x -> x.resultant(2, 3, 6, 0)};
        for (int i = 0; i < ways.length; i++) {
            String what = "0 without terms, way " + i;
            Scene.modulo(7).with(0, t(1, 1, 0, 0), t(1, 0, 1, 0)).with(1)
                .doing(what, 2, "0", ways[i])
                .after(ways[i])
                .answering(what + ", terms", 0, x -> x.terms(2))
                .answering(what + ", registers that are 0", 2, x -> x.count(2))
                .answering(what + ", same as 0", true, x -> x.isSame(1, 2));
        }
    }

    /** "Its DEGREE in a variable is the greatest exponent of it (0 for 0)." */
    private static void theDegreeIsTheGreatestExponent() {
        degreesAre("of 0", 0, 0, 0);
        degreesAre("of a number", 0, 0, 0, t(3, 0, 0, 0));
        degreesAre("of a term that vanishes", 0, 0, 0, t(3, 5, 4, 3), t(4, 5, 4, 3));
        degreesAre("of x", 1, 0, 0, t(1, 1, 0, 0));
        degreesAre("of y", 0, 1, 0, t(1, 0, 1, 0));
        degreesAre("of z", 0, 0, 1, t(1, 0, 0, 1));
        degreesAre("in the highest, in the middle and in the lowest term", 4, 3, 2, t(1, 4, 0, 0), t(1, 0, 3, 0), t(1, 0, 0, 2));
        degreesAre("in the lowest, in the middle and in the highest term", 2, 3, 4, t(1, 2, 0, 0), t(1, 0, 3, 0), t(1, 0, 0, 4));
        degreesAre("11, 12, 11", 11, 12, 11, t(1, 11, 12, 11));
        degreesAre("12, 11, 12", 12, 11, 12, t(1, 12, 11, 12));
    }

    private static void degreesAre(String what, int e0, int e1, int e2, int[]... terms) {
        Scene.modulo(7).with(4, terms)
            .answering("degree " + what, e0, x -> x.degree(4, 0))
            .answering("degree " + what, e1, x -> x.degree(4, 1))
            .answering("degree " + what, e2, x -> x.degree(4, 2));
    }

    /** "REGISTERS 0 .. 11 have one each, at first 0." */
    private static void registersAreAtFirst0() {
        PolynomialHeap x = new PolynomialHeap(2);
        for (int r = 0; r < 12; r++) {
            String what = "at first, register " + r;
            Check.due(what, x.terms(r), 0);
            Check.due(what, x.value(r, 1, 1, 1), 0);
            Check.due(what, x.coefficient(r, 0, 0, 0), 0);
            Check.due(what, x.degree(r, 0) + x.degree(r, 1) + x.degree(r, 2), 0);
            Check.due(what, x.isSame(r, 11 - r), true);
        }
        for (int r = 0; r < 12; r++) {
            int written = r;
            Scene.modulo(7).doing("one each", r, "5", y -> y.constant(written, 5));
        }
    }

    /** "put it into a register, in place of what was there": five terms give way to fewer, and none of them is left. */
    private static void inPlaceOfWhatWasThere() {
        replaces("constant", "3", x -> x.constant(2, 3));
        replaces("variable", "1 y", x -> x.variable(2, 1));
        replaces("add", "2 x + 1", x -> x.add(2, 0, 1, 1));
        replaces("multiply", "1 x2 + 1 x", x -> x.multiply(2, 0, 1));
        replaces("power", "1 x2 + 2 x + 1", x -> x.power(2, 0, 2));
        replaces("divide, the quotient", "1", x -> x.divide(2, 0, 1, true));
        replaces("divide, what is left", "1", x -> x.divide(2, 0, 1, false));
        replaces("derive", "1", x -> x.derive(2, 0, 0));
        replaces("put", "1 x + 1", x -> x.put(2, 0, 0, 1));
        replaces("resultant", "6", x -> x.resultant(2, 0, 1, 0));
    }

    private static void replaces(String what, String want, Scene.Deed deed) {
        Scene.modulo(7).with(0, t(1, 1, 0, 0), t(1, 0, 0, 0)).with(1, t(1, 1, 0, 0))
            .with(2, t(1, 5, 5, 5), t(2, 3, 0, 0), t(3, 0, 3, 0), t(4, 1, 1, 1), t(5, 0, 0, 0))
            .doing("in place of what was there: " + what, 2, want, deed);
    }

    /** "in place of what was there": registers that had five terms once, and now have x + 1 and x, are read as such. */
    private static void whatWasThereIsReadNoMore() {
        int[][] high = {t(1, 5, 5, 5), t(2, 3, 0, 0), t(4, 1, 1, 1), t(3, 0, 3, 0), t(5, 0, 0, 1)};
        int[][] low = {t(1, 2, 0, 0), t(2, 1, 0, 0), t(3, 0, 1, 0), t(4, 0, 0, 1), t(5, 0, 0, 0)};
        for (int[][] terms : new int[][][] {high, low}) {
            Scene scene = Scene.modulo(7).with(0, t(1, 1, 0, 0), t(1, 0, 0, 0)).with(1, terms).with(2, terms)
                .after(x -> x.add(1, 0, 0, 0)).after(x -> x.variable(2, 0));
            makesNothingOfIt(scene);
            answersNothingOfIt(scene);
        }
    }

    private static void makesNothingOfIt(Scene scene) {
        String what = "what was there is read no more: ";
        scene.doing(what + "add", 3, "6 x + 1", x -> x.add(3, 1, 2, 5))
            .making(what + "multiply", 3, "1 x2 + 1 x", x -> x.multiply(3, 1, 2))
            .making(what + "power", 3, "1 x2 + 2 x + 1", x -> x.power(3, 1, 2))
            .doing(what + "quotient", 3, "1", x -> x.divide(3, 1, 2, true))
            .doing(what + "left", 3, "1", x -> x.divide(3, 1, 2, false))
            .doing(what + "quotient by x + 1", 3, "1", x -> x.divide(3, 2, 1, true))
            .doing(what + "left by x + 1", 3, "6", x -> x.divide(3, 2, 1, false))
            .doing(what + "derive by x", 3, "1", x -> x.derive(3, 1, 0))
            .doing(what + "derive by y", 3, "0", x -> x.derive(3, 1, 1))
            .making(what + "put x", 3, "1 x + 1", x -> x.put(3, 1, 0, 2))
            .making(what + "put x + 1", 3, "1 x + 1", x -> x.put(3, 2, 0, 1))
            .making(what + "resultant", 3, "6", x -> x.resultant(3, 1, 2, 0))
            .making(what + "resultant, the other way", 3, "1", x -> x.resultant(3, 2, 1, 0));
    }

    private static void answersNothingOfIt(Scene scene) {
        String what = "what was there is read no more: ";
        scene.answering(what + "value", 2, x -> x.value(1, 1, 1, 1))
            .answering(what + "value of x", 1, x -> x.value(2, 1, 1, 1))
            .answering(what + "terms", 2, x -> x.terms(1))
            .throwing(what + "term", Check.INDEX, x -> x.term(1, 2, 0))
            .throwing(what + "term of x", Check.INDEX, x -> x.term(2, 1, 0))
            .answering(what + "coefficient of x y z", 0, x -> x.coefficient(1, 1, 1, 1))
            .answering(what + "coefficient of y", 0, x -> x.coefficient(1, 0, 1, 0))
            .answering(what + "coefficient of x3", 0, x -> x.coefficient(2, 3, 0, 0))
            .answering(what + "coefficient of 1", 0, x -> x.coefficient(2, 0, 0, 0))
            .answering(what + "degree in x", 1, x -> x.degree(2, 0))
            .answering(what + "degree in y", 0, x -> x.degree(1, 1))
            .answering(what + "degree in z", 0, x -> x.degree(1, 2))
            .answering(what + "isSame", true, x -> x.isSame(0, 1))
            .answering(what + "all terms", 14, x -> x.count(1))
            .answering(what + "the greatest degree", 4, x -> x.count(3));
    }

    /** One call of any kind, done or refused or thrown, and then another: that one makes what it makes without the first. */
    private static void nothingIsLeftOfACallBefore() {
        Scene.Deed[] first = {
            x -> x.constant(3, 6), x -> x.add(3, 4, 5, 3), x -> x.multiply(3, 4, 5), x -> x.power(3, 4, 2), x -> x.divide(3, 4, 0, true),
            x -> x.divide(3, 4, 0, false), x -> x.derive(3, 4, 0), x -> x.put(3, 4, 0, 5), x -> x.resultant(3, 4, 5, 0),
            x -> x.value(4, 2, 3, 5), x -> x.multiply(3, 11, 9), x -> x.power(3, 4, 5), x -> x.put(3, 9, 0, 9),
            x -> Check.outcomeOf(() -> x.divide(3, 4, 8, true)), x -> Check.outcomeOf(() -> x.power(3, 4, 101)),
            x -> Check.outcomeOf(() -> x.resultant(3, 4, 9, 0)), x -> Check.outcomeOf(() -> x.put(3, 4, 3, 5))};
        for (int i = 0; i < first.length; i++) {
            String what = "after call " + i + ": ";
            Scene.modulo(7).with(0, t(1, 2, 0, 0), t(1, 0, 0, 0)).with(1, t(1, 1, 0, 0), t(1, 0, 0, 0)).with(8).with(9, t(1, 6, 0, 0))
                .with(4, t(1, 3, 0, 0), t(2, 1, 1, 0), t(3, 0, 0, 1), t(4, 0, 0, 0)).with(5, t(1, 2, 1, 0), t(5, 0, 1, 1), t(6, 0, 0, 0))
                .after(first[i])
                .doing(what + "add", 2, "1 x2 + 2 x + 3", x -> x.add(2, 0, 1, 2))
                .making(what + "multiply", 2, "1 x3 + 1 x2 + 1 x + 1", x -> x.multiply(2, 0, 1))
                .making(what + "power", 2, "1 x4 + 2 x2 + 1", x -> x.power(2, 0, 2))
                .doing(what + "quotient", 2, "1 x + 6", x -> x.divide(2, 0, 1, true))
                .doing(what + "left", 2, "2", x -> x.divide(2, 0, 1, false))
                .doing(what + "derive", 2, "2 x", x -> x.derive(2, 0, 0))
                .making(what + "put", 2, "1 x2 + 2 x + 2", x -> x.put(2, 0, 0, 1))
                .making(what + "resultant", 2, "2", x -> x.resultant(2, 0, 1, 0))
                .looking(x -> Check.due(what + "value", x.value(0, 2, 0, 0), 5));
        }
    }

    /** "A POLYNOMIAL is a sum of TERMS": as many as one likes, also where rows inside may be full. */
    private static void anyNumberOfTerms() {
        for (int terms : new int[] {1, 2, 15, 16, 17, 31, 32, 33, 63, 64, 65, 127, 128, 129, 169}) {
            String what = terms + " terms";
            PolynomialHeap x = new PolynomialHeap(46337);
            x.variable(1, 0);
            x.variable(2, 1);
            x.constant(3, 1);
            for (int i = 0; i < terms; i++) {
                x.add(0, 0, 3, i + 1);
                if (i % 13 == 12) {
                    x.constant(4, 1);
                    x.put(3, 3, 0, 4);
                    x.multiply(3, 3, 2);
                } else {
                    x.multiply(3, 3, 1);
                }
            }
            Check.due(what, x.terms(0), terms);
            Check.due(what + ", the last one", x.term(0, terms - 1, 0), 1);
            Check.due(what + ", none behind it", Check.outcome(() -> x.term(0, terms, 0)), Check.INDEX);
            Check.due(what + ", a coefficient", x.coefficient(0, (terms - 1) % 13, (terms - 1) / 13, 0), terms);
            Check.due(what + ", none of z", x.coefficient(0, 0, 0, 1), 0);
            Check.due(what + ", value", x.value(0, 1, 1, 1), terms * (terms + 1) / 2);
            Check.due(what + ", to 1", x.power(5, 0, 1), true);
            Check.due(what + ", the same", x.isSame(0, 5), true);
            x.add(5, 5, 0, 1);
            x.divide(5, 5, 0, true);
            Check.due(what + ", twice by once", Desk.read(x, 5), "2");
            x.derive(6, 0, 2);
            Check.due(what + ", derived by z", x.terms(6), 0);
            Check.due(what + ", of all registers", x.count(1), terms + 3 + 1 + (terms > 12 ? 1 : 0));
        }
    }

    /** "(this may be one of those that they read)": register 0 has x2 + 1, register 1 has x + 1. */
    private static void thisMayBeOneOfThoseThatTheyRead() {
        overwrites("add", 0, "1 x2 + 2 x + 3", x -> x.add(0, 0, 1, 2));
        overwrites("add", 1, "1 x2 + 2 x + 3", x -> x.add(1, 0, 1, 2));
        overwrites("add", 0, "3 x2 + 3", x -> x.add(0, 0, 0, 2));
        overwrites("multiply", 0, "1 x3 + 1 x2 + 1 x + 1", x -> x.multiply(0, 0, 1));
        overwrites("multiply", 1, "1 x3 + 1 x2 + 1 x + 1", x -> x.multiply(1, 0, 1));
        overwrites("multiply", 0, "1 x4 + 2 x2 + 1", x -> x.multiply(0, 0, 0));
        overwrites("power", 0, "1 x4 + 2 x2 + 1", x -> x.power(0, 0, 2));
        overwrites("power to 0", 0, "1", x -> x.power(0, 0, 0));
        overwrites("power to 1", 0, "1 x2 + 1", x -> x.power(0, 0, 1));
        overwrites("quotient", 0, "1 x + 6", x -> x.divide(0, 0, 1, true));
        overwrites("quotient", 1, "1 x + 6", x -> x.divide(1, 0, 1, true));
        overwrites("quotient", 0, "1", x -> x.divide(0, 0, 0, true));
        overwrites("what is left", 0, "2", x -> x.divide(0, 0, 1, false));
        overwrites("what is left", 1, "2", x -> x.divide(1, 0, 1, false));
        overwrites("what is left", 0, "0", x -> x.divide(0, 0, 0, false));
        overwrites("derive", 0, "2 x", x -> x.derive(0, 0, 0));
        overwrites("put", 0, "1 x2 + 2 x + 2", x -> x.put(0, 0, 0, 1));
        overwrites("put", 1, "1 x2 + 2 x + 2", x -> x.put(1, 0, 0, 1));
        overwrites("put", 0, "1 x4 + 2 x2 + 2", x -> x.put(0, 0, 0, 0));
        overwrites("resultant", 0, "2", x -> x.resultant(0, 0, 1, 0));
        overwrites("resultant", 1, "2", x -> x.resultant(1, 0, 1, 0));
        overwrites("resultant", 0, "0", x -> x.resultant(0, 0, 0, 0));
    }

    private static void overwrites(String what, int r, String want, Scene.Deed deed) {
        Scene.modulo(7).with(0, t(1, 2, 0, 0), t(1, 0, 0, 0)).with(1, t(1, 1, 0, 0), t(1, 0, 0, 0))
            .doing("one of those that it reads: " + what + " into " + r, r, want, deed);
    }

    /** Every place where a call takes a register. */
    private static List<Place> registerPlaces() {
        List<Place> places = new ArrayList<>();
        places.add((x, r) -> done(() -> x.constant(r, 1)));
        places.add((x, r) -> done(() -> x.variable(r, 0)));
        places.add((x, r) -> done(() -> x.add(r, 0, 1, 1)));
        places.add((x, r) -> done(() -> x.add(2, r, 1, 1)));
        places.add((x, r) -> done(() -> x.add(2, 0, r, 1)));
        places.add((x, r) -> done(() -> x.add(2, 0, r, 0)));
        places.add((x, r) -> x.multiply(r, 0, 1));
        places.add((x, r) -> x.multiply(2, r, 1));
        places.add((x, r) -> x.multiply(2, 0, r));
        places.add((x, r) -> x.power(r, 0, 1));
        places.add((x, r) -> x.power(2, r, 0));
        places.add((x, r) -> done(() -> x.divide(r, 0, 1, true)));
        places.add((x, r) -> done(() -> x.divide(2, r, 1, false)));
        places.add((x, r) -> done(() -> x.divide(2, 0, r, true)));
        places.add((x, r) -> done(() -> x.derive(r, 0, 0)));
        places.add((x, r) -> done(() -> x.derive(2, r, 0)));
        places.add((x, r) -> x.put(r, 0, 0, 1));
        places.add((x, r) -> x.put(2, r, 0, 1));
        places.add((x, r) -> x.put(2, 0, 1, r));
        places.add((x, r) -> x.resultant(r, 0, 1, 0));
        places.add((x, r) -> x.resultant(2, r, 1, 0));
        places.add((x, r) -> x.resultant(2, 0, r, 0));
        places.add((x, r) -> x.value(r, 1, 1, 1));
        places.add((x, r) -> x.terms(r));
        places.add((x, r) -> x.term(r, 0, 0));
        places.add((x, r) -> x.coefficient(r, 0, 0, 0));
        places.add((x, r) -> x.degree(r, 0));
        places.add((x, r) -> x.isSame(r, 0));
        places.add((x, r) -> x.isSame(0, r));
        return places;
    }

    private static Object done(Check.Deed deed) {
        deed.run();
        return "done";
    }

    /** "They throw IndexOutOfBoundsException for a register that there is none" */
    private static void registersAre0To11() {
        List<Place> places = registerPlaces();
        for (int i = 0; i < places.size(); i++) {
            Place place = places.get(i);
            for (int no : NO_REGISTERS) {
                Scene.modulo(7).throwing("place " + i + ", register " + no, Check.INDEX, x -> place.call(x, no));
            }
            for (int r = 0; r < 12; r++) {
                int register = r;
                Scene.modulo(7).looking(x -> notThrown(x, place, register));
            }
        }
    }

    private static void notThrown(PolynomialHeap heap, Place place, int r) {
        Object outcome = Check.outcome(() -> place.call(heap, r));
        Check.due("register " + r + " is there", Check.INDEX.equals(outcome) || Check.ARGUMENT.equals(outcome), false);
    }

    /** "else IllegalArgumentException for other numbers that are not as said": a wrong register comes first. */
    private static void registersComeBeforeOtherNumbers() {
        for (int no : NO_REGISTERS) {
            Scene.Deed[] calls = {
                x -> x.variable(no, -1), x -> x.variable(no, 3), x -> x.power(no, 0, -1), x -> x.power(0, no, 101),
                x -> x.divide(no, 0, 1, true), x -> x.divide(0, no, 1, false), x -> x.derive(no, 0, -1), x -> x.derive(0, no, 3),
                x -> x.put(no, 0, 3, 1), x -> x.put(0, no, -1, 1), x -> x.put(0, 0, 3, no),
                x -> x.resultant(no, 0, 1, 0), x -> x.resultant(0, no, 1, 0), x -> x.resultant(0, 1, no, 0),
                x -> x.resultant(no, 0, 0, 3), x -> x.resultant(0, no, 0, -1), x -> x.resultant(0, 0, no, 3),
                x -> x.term(no, 0, 4), x -> x.term(no, -1, -1), x -> x.coefficient(no, -1, 0, 0), x -> x.degree(no, 3)};
            for (int i = 0; i < calls.length; i++) {
                Scene.modulo(7).with(1).throwing("register " + no + " first, call " + i, Check.INDEX, calls[i]);
            }
        }
    }

    /** "else they answer whether it was done": a wrong number comes before the bound, and is not counted as refused. */
    private static void otherNumbersComeBeforeTheBound() {
        Scene.Deed[] calls = {
            x -> x.power(2, 0, -1), x -> x.power(2, 0, 101), x -> x.put(2, 0, 3, 0), x -> x.put(2, 0, -1, 0),
            x -> x.resultant(2, 0, 1, 3), x -> x.resultant(2, 0, 1, -1), x -> x.resultant(2, 0, 1, 0)};
        for (int i = 0; i < calls.length; i++) {
            Scene.modulo(7).with(0, t(1, 5, 12, 12)).with(1, t(1, 4, 12, 12))
                .throwing("a wrong number before the bound, call " + i, Check.ARGUMENT, calls[i]);
        }
    }

    /** A wrong register comes before the bound, too. */
    private static void registersComeBeforeTheBound() {
        for (int no : NO_REGISTERS) {
            Scene.Deed[] calls = {
                x -> x.multiply(no, 0, 0), x -> x.power(no, 0, 2), x -> x.put(no, 0, 1, 0), x -> x.resultant(no, 0, 0, 0)};
            for (int i = 0; i < calls.length; i++) {
                Scene.modulo(7).with(0, t(1, 2, 12, 12))
                    .throwing("register " + no + " before the bound, call " + i, Check.INDEX, calls[i]);
            }
        }
    }

    /** "false, and nothing changes, when a degree would be above 12": into a register of its own, into a and into b. */
    private static void falseWhenADegreeWouldBeAbove12() {
        for (int register = 0; register < 3; register++) {
            int r = register;
            Scene.Call[] calls = {x -> x.multiply(r, 0, 1), x -> x.power(r, 0, 7), x -> x.put(r, 0, 0, 1), x -> x.resultant(r, 0, 1, 0)};
            for (int i = 0; i < calls.length; i++) {
                Scene.modulo(7).with(0, t(1, 2, 7, 1), t(4, 0, 0, 0)).with(1, t(1, 1, 6, 1), t(5, 0, 1, 0))
                    .refusing("above 12, call " + i + " into " + r, calls[i])
                    .after(calls[i]::on)
                    .refusing("above 12, call " + i + " into " + r + " again", calls[i]);
            }
        }
    }
}
