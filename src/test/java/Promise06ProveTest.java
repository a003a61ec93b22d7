/** Promise 6: prove() builds the chain, divides the conclusion through it, and stops where it must. */
public final class Promise06ProveTest {
    private static final int PROVED = WuProver.STATUS_PROVED;
    private static final int NOT_PROVED = WuProver.STATUS_NOT_PROVED;
    private static final int INCONSISTENT = WuProver.STATUS_INCONSISTENT;
    private static final int OVERFLOW = WuProver.STATUS_OVERFLOW;

    public static void main(String[] args) {
        noHypotheses();
        choiceOfBase();
        chainOfTwoPasses();
        contradictions();
        contradictionOrOverflow();
        reduction();
        everyRoundCounts();
        quotientsAreRaised();
        overflowOfExponents();
        overflowOfTerms();
        uncheckedValues();
        fromScratch();
        parallelogram();
        Tools.end();
    }

    /** A new object over Z_p with these hypotheses, in order, and this conclusion. */
    private static WuProver with(int primeIndex, int vars, String conclusion, String... hypotheses) {
        WuProver x = new WuProver(primeIndex, vars);
        for (int i = 0; i < hypotheses.length; i++) {
            Tools.enter(x, i, hypotheses[i]);
        }
        Tools.enter(x, 8, conclusion);
        return x;
    }

    /** Proves; the inputs stay, and after a stop the results are cleared. */
    private static WuProver proved(int want, WuProver x) {
        String inputs = Tools.inputs(x);
        String name = inputs + " prove()";
        Tools.due(name, x.prove(), want);
        Tools.due(name + " then status()", x.status(), want);
        Tools.due(name + " then inputs", Tools.inputs(x), inputs);
        if (want == INCONSISTENT || want == OVERFLOW) {
            Tools.due(name + " then results", Tools.results(x), Tools.clearedResults(x.varCount(), want));
        }
        return x;
    }

    private static void noHypotheses() {
        WuProver x = proved(PROVED, new WuProver(4, 3));
        Tools.due("all is zero", Tools.results(x), Tools.clearedResults(3, PROVED));
        x = proved(NOT_PROVED, with(4, 2, "x1^2 - x0 + 3"));
        Tools.due("the remainder is the conclusion", Tools.remainder(x), "3 + 100*x0 + 1*x1^2");
        Tools.due("chainSize()", x.chainSize(), 0);
        Tools.due("multiplier(1)", x.multiplier(1), -1);
        x = proved(NOT_PROVED, with(4, 2, "7"));
        Tools.due("a constant conclusion stays", Tools.remainder(x), "7");
    }

    private static void choiceOfBase() {
        WuProver x = proved(PROVED, with(4, 2, "", "x1 - x0", "x1 + x0"));
        Tools.due("of equal degrees the first is the base", Tools.chain(x, 1), "100*x0 + 1*x1");
        Tools.due("the other is divided by it", Tools.chain(x, 0), "2*x0");
        // By x1 + x0, x1^2 leaves x0^2, 3*x1 - x0 leaves -4*x0 and x1^3 leaves -x0^3; then by -4*x0, both leave 0.
        x = proved(PROVED, with(4, 2, "", "", "x1^2", "x1 + x0", "3*x1 - x0", "x1^3"));
        Tools.due("the first of the least degree", Tools.chain(x, 1), "1*x0 + 1*x1");
        Tools.due("the least degree below", Tools.chain(x, 0), "97*x0");
    }

    private static void chainOfTwoPasses() {
        // x0^3 - x0 by x0^2 - 1 leaves 0; by x0^2 + x0 twice: x0^2 - 1 leaves -x0 - 1, then x0^2 + x0 leaves 0.
        WuProver x = proved(PROVED, with(4, 1, "x0 + 1", "x0^3 - x0", "x0^2 + x0", "x0^2 - 1"));
        Tools.due("the common divisor", Tools.chain(x, 0), "100 + 100*x0");
        Tools.due("multiplier(0)", x.multiplier(0), 1);
        Tools.due("quotient", Tools.quotient(x, 0), "1");
        // The base of the first pass is itself divided in the second.
        x = proved(PROVED, with(4, 1, "", "x0^3 + 1", "x0^2 - 1"));
        Tools.due("the last divisor", Tools.chain(x, 0), "1 + 1*x0");
        // A polynomial that falls into a lower class waits there for that class.
        x = proved(PROVED, with(4, 3, "", "x2 - x1", "x2 - x0", "x1^2 - 1"));
        Tools.due("class 2", Tools.chain(x, 2), "100*x1 + 1*x2");
        Tools.due("class 1", Tools.chain(x, 1), "100*x0 + 1*x1");
        Tools.due("class 0", Tools.chain(x, 0), "100 + 1*x0^2");
        Tools.due("chainSize()", x.chainSize(), 3);
    }

    private static void contradictions() {
        proved(INCONSISTENT, with(4, 2, "", "5"));
        proved(INCONSISTENT, with(4, 2, "", "", "", "", "", "", "", "", "100"));
        proved(INCONSISTENT, with(0, 1, "x0", "x0", "1"));
        proved(INCONSISTENT, with(4, 2, "x0", "x0", "x0 + 1"));
        proved(INCONSISTENT, with(4, 3, "", "x2 - x1", "x2 - x1 - 1"));
        proved(INCONSISTENT, with(4, 3, "", "x2 - x1", "x2 - x0", "x1 - x0 - 1"));
        // A constant that is zero modulo p is no constant.
        proved(PROVED, with(4, 2, "", "101"));
        proved(PROVED, with(4, 2, "", "x0", "x0 + 101"));
        // A constant conclusion is no contradiction.
        proved(NOT_PROVED, with(4, 2, "1", "x0"));
    }

    private static void contradictionOrOverflow() {
        String base = "x1 + x0^15";
        String toConstant = "x1 + x0^15 + 1";
        String toOverflow = "x0*x1";
        proved(OVERFLOW, with(4, 2, "", base, toOverflow));
        proved(INCONSISTENT, with(4, 2, "", base, toConstant, toOverflow));
        proved(OVERFLOW, with(4, 2, "", base, toOverflow, toConstant));
        proved(INCONSISTENT, with(4, 2, "", base, toOverflow, toConstant, "1"));
        // The higher class comes first.
        proved(OVERFLOW, with(4, 3, "", "x0", "x0 + 1", "x2 + x1^15", "x1*x2"));
        proved(INCONSISTENT, with(4, 3, "", "x2", "x2 + 1", "x1 + x0^15", "x0*x1"));
    }

    private static void reduction() {
        WuProver x = proved(PROVED, with(4, 2, "x1^2 - x0^2", "x1 - x0"));
        Tools.due("multiplier(1)", x.multiplier(1), 2);
        Tools.due("quotient", Tools.quotient(x, 1), "1*x0 + 1*x1");
        Tools.due("remainder", Tools.remainder(x), "0");
        // Below the degree of the chain no round is made.
        x = proved(NOT_PROVED, with(4, 2, "x1^2 + x0", "x1^3 - x0"));
        Tools.due("multiplier(1)", x.multiplier(1), 0);
        Tools.due("quotient", Tools.quotient(x, 1), "0");
        Tools.due("remainder", Tools.remainder(x), "1*x0 + 1*x1^2");
        Tools.due("multiplier(0)", x.multiplier(0), -1);
        // Nothing is left for the lower classes.
        x = proved(PROVED, with(4, 2, "x1*x0", "x1", "x0 - 1"));
        Tools.due("multiplier(1)", x.multiplier(1), 1);
        Tools.due("multiplier(0)", x.multiplier(0), 0);
        Tools.due("quotient 1", Tools.quotient(x, 1), "1*x0");
        Tools.due("quotient 0", Tools.quotient(x, 0), "0");
        // A zero conclusion.
        x = proved(PROVED, with(4, 2, "", "x1 - x0", "x0^2 - 1"));
        Tools.due("multiplier(1)", x.multiplier(1), 0);
        Tools.due("multiplier(0)", x.multiplier(0), 0);
        Tools.due("remainder", Tools.remainder(x), "0");
    }

    private static void everyRoundCounts() {
        // The degree falls by two in the first round; the second still multiplies by the initial x0.
        WuProver x = proved(PROVED, with(4, 2, "x0*x1^2 + x1", "x0*x1 + 1"));
        Tools.due("multiplier(1)", x.multiplier(1), 2);
        Tools.due("quotient", Tools.quotient(x, 1), "1*x0^2*x1");
        x = proved(NOT_PROVED, with(4, 2, "x0*x1^2 + x1 + 1", "x0*x1 + 1"));
        Tools.due("multiplier(1)", x.multiplier(1), 2);
        Tools.due("quotient", Tools.quotient(x, 1), "1*x0^2*x1");
        Tools.due("remainder", Tools.remainder(x), "1*x0^2");
        // The same in the chain: x0*x1^2 + x1 + x0 by x0*x1 + 1 leaves x0^2, then x0^3.
        x = proved(PROVED, with(4, 2, "", "x0*x1 + 1", "x0*x1^2 + x1 + x0"));
        Tools.due("chain 0", Tools.chain(x, 0), "1*x0^3");
    }

    private static void quotientsAreRaised() {
        WuProver x = proved(NOT_PROVED, with(4, 3, "x2", "x2 - x1", "x0*x1 - 1"));
        Tools.due("quotient 2", Tools.quotient(x, 2), "1*x0");
        Tools.due("quotient 1", Tools.quotient(x, 1), "1");
        Tools.due("remainder", Tools.remainder(x), "1");
        Tools.due("multiplier(2)", x.multiplier(2), 1);
        Tools.due("multiplier(1)", x.multiplier(1), 1);
        // k times: x1^2 takes two rounds with the initial 3*x0.
        x = proved(NOT_PROVED, with(4, 3, "x2*x1", "x2 - x1", "3*x0*x1 - 1"));
        Tools.due("quotient 2", Tools.quotient(x, 2), "9*x0^2*x1");
        Tools.due("quotient 1", Tools.quotient(x, 1), "1 + 3*x0*x1");
        Tools.due("remainder", Tools.remainder(x), "1");
        Tools.due("multiplier(1)", x.multiplier(1), 2);
    }

    private static void overflowOfExponents() {
        // Remainder: x0^15 is fine, x0^16 is not, in the chain and in the reduction.
        proved(PROVED, with(4, 2, "", "x0^15*x1 + 1", "x0^15*x1 + 2"));
        proved(OVERFLOW, with(4, 2, "", "x0^15*x1 + 1", "x0^15*x1 + x0"));
        WuProver x = proved(NOT_PROVED, with(4, 2, "x0^14*x1", "x1 - x0"));
        Tools.due("remainder", Tools.remainder(x), "1*x0^15");
        proved(OVERFLOW, with(4, 2, "x0^15*x1", "x1 - x0"));
        // Each exponent has its own limit.
        for (int v = 0; v < 5; v++) {
            proved(NOT_PROVED, with(4, 6, "x" + v + "^14*x5", "x5 - x" + v));
            proved(OVERFLOW, with(4, 6, "x" + v + "^15*x5", "x5 - x" + v));
        }
        // The quotient alone, in its second round; the same division is fine in the chain.
        proved(PROVED, with(4, 2, "x0^14*x1^2", "x0*x1"));
        proved(OVERFLOW, with(4, 2, "x0^15*x1^2", "x0*x1"));
        proved(PROVED, with(4, 2, "", "x0*x1", "x0^15*x1^2"));
        // A raised quotient alone.
        x = proved(NOT_PROVED, with(4, 3, "x0^14*x2", "x2 - x1", "x0*x1 - 1"));
        Tools.due("quotient 2", Tools.quotient(x, 2), "1*x0^15");
        proved(OVERFLOW, with(4, 3, "x0^15*x2", "x2 - x1", "x0*x1 - 1"));
    }

    private static void overflowOfTerms() {
        StringBuilder powers = new StringBuilder();
        for (int e = 1; e <= 15; e++) {
            powers.append(" + x0^").append(e);
        }
        // Sixteen terms stay sixteen with one more term in the divisor, seventeen with two.
        WuProver x = proved(NOT_PROVED, with(4, 3, "x2" + powers, "x2 + 1"));
        Tools.due("sixteen terms", x.termCount(WuProver.KIND_REMAINDER, 0), 16);
        proved(OVERFLOW, with(4, 3, "x2" + powers, "x2 + x1 + 1"));
        x = proved(PROVED, with(4, 3, "", "x2 + 1", "x2" + powers));
        Tools.due("sixteen terms", x.termCount(WuProver.KIND_CHAIN, 0), 16);
        proved(OVERFLOW, with(4, 3, "", "x2 + x1 + 1", "x2" + powers));
    }

    private static void uncheckedValues() {
        // The products of one round have exponents up to 30 and more than 16 terms, and cancel.
        StringBuilder wide = new StringBuilder();
        for (int e = 0; e < 8; e++) {
            wide.append(" + x0^").append(e).append("*x1 + x0^").append(e + 8);
        }
        WuProver x = proved(PROVED, with(4, 2, wide.toString(), wide.toString(), wide.toString()));
        Tools.due("chainSize()", x.chainSize(), 1);
        Tools.due("multiplier(1)", x.multiplier(1), 1);
        Tools.due("quotient", x.termCount(WuProver.KIND_QUOTIENT, 1), 8);
        // The greatest monomial of all.
        String top = "x0^15*x1^15*x2^15*x3^15*x4^15*x5^15";
        x = proved(PROVED, with(7, 6, top, top, top));
        Tools.due("quotient", Tools.quotient(x, 5), "1*x0^15*x1^15*x2^15*x3^15*x4^15");
    }

    private static void fromScratch() {
        WuProver x = proved(NOT_PROVED, with(4, 3, "x2", "x2 - x1", "x0*x1 - 1"));
        String first = Tools.everything(x);
        proved(NOT_PROVED, x);
        Tools.due("the same again", Tools.everything(x), first);
        Tools.enter(x, 7, "1");
        proved(INCONSISTENT, x);
        x.clearPoly(7);
        proved(NOT_PROVED, x);
        Tools.due("as before the contradiction", Tools.everything(x), first);
        Tools.enter(x, 8, "x0^15*x2");
        proved(OVERFLOW, x);
        x.addTerm(8, -1, 15 + 256);
        proved(NOT_PROVED, x);
        Tools.due("as before the overflow", Tools.everything(x), first);
    }

    private static void parallelogram() {
        // The diagonals of a parallelogram cut each other in half. The corners are (0, 0), (x0, 0),
        // (x0 + x1, x2) and (x1, x2); (x3, x4) lies on both diagonals.
        String onFirst = "x0*x4 + x1*x4 - x2*x3";
        String onSecond = "x1*x4 - x0*x4 - x2*x3 + x0*x2";
        WuProver x = proved(PROVED, with(7, 5, "2*x3 - x0 - x1", onFirst, onSecond));
        Tools.due("chainSize()", x.chainSize(), 2);
        Tools.due("check()", x.check(), WuProver.CHECK_OK);
        proved(NOT_PROVED, with(7, 5, "2*x3 - x0 - 2*x1", onFirst, onSecond));
    }
}
