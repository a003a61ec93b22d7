/** Promise 6: prove() builds the chain, divides the conclusion through it, and stops where it must. */
public final class Promise06ProveTest {
    private static final int PROVED = WuProver.STATUS_PROVED;
    private static final int NOT_PROVED = WuProver.STATUS_NOT_PROVED;
    private static final int INCONSISTENT = WuProver.STATUS_INCONSISTENT;
    private static final int OVERFLOW = WuProver.STATUS_OVERFLOW;

    public static void main(String[] args) {
        noHypotheses();
        choiceOfBase();
        chainOfTwoPasses();
        contradictions();
        contradictionOrOverflow();
        reduction();
        everyRoundCounts();
        quotientsAreRaised();
        overflowOfExponents();
        overflowOfTerms();
        uncheckedValues();
        fromScratch();
        parallelogram();
        Tools.end();
    }

    private static void noHypotheses() {
        WuProver x = Tools.proved(PROVED, new WuProver(4, 3));
        Tools.due("all is zero", Tools.results(x), Tools.clearedResults(3, PROVED));
        x = Tools.proved(NOT_PROVED, Tools.with(4, 2, "x1^2 - x0 + 3"));
        Tools.due("the remainder is the conclusion", Tools.remainder(x), "3 + 100*x0 + 1*x1^2");
        Tools.due("chainSize()", x.chainSize(), 0);
        Tools.due("multiplier(1)", x.multiplier(1), -1);
        x = Tools.proved(NOT_PROVED, Tools.with(4, 2, "7"));
        Tools.due("a constant conclusion stays", Tools.remainder(x), "7");
    }

    private static void choiceOfBase() {
        WuProver x = Tools.proved(PROVED, Tools.with(4, 2, "", "x1 - x0", "x1 + x0"));
        Tools.due("of equal degrees the first is the base", Tools.chain(x, 1), "100*x0 + 1*x1");
        Tools.due("the other is divided by it", Tools.chain(x, 0), "2*x0");
        // By x1 + x0, x1^2 leaves x0^2, 3*x1 - x0 leaves -4*x0 and x1^3 leaves -x0^3; then by -4*x0, both leave 0.
        x = Tools.proved(PROVED, Tools.with(4, 2, "", "", "x1^2", "x1 + x0", "3*x1 - x0", "x1^3"));
        Tools.due("the first of the least degree", Tools.chain(x, 1), "1*x0 + 1*x1");
        Tools.due("the least degree below", Tools.chain(x, 0), "97*x0");
    }

    private static void chainOfTwoPasses() {
        // x0^3 - x0 by x0^2 - 1 leaves 0; by x0^2 + x0 twice: x0^2 - 1 leaves -x0 - 1, then x0^2 + x0 leaves 0.
        WuProver x = Tools.proved(PROVED, Tools.with(4, 1, "x0 + 1", "x0^3 - x0", "x0^2 + x0", "x0^2 - 1"));
        Tools.due("the common divisor", Tools.chain(x, 0), "100 + 100*x0");
        Tools.due("multiplier(0)", x.multiplier(0), 1);
        Tools.due("quotient", Tools.quotient(x, 0), "1");
        // The base of the first pass is itself divided in the second.
        x = Tools.proved(PROVED, Tools.with(4, 1, "", "x0^3 + 1", "x0^2 - 1"));
        Tools.due("the last divisor", Tools.chain(x, 0), "1 + 1*x0");
        // A polynomial that falls into a lower class waits there for that class.
        x = Tools.proved(PROVED, Tools.with(4, 3, "", "x2 - x1", "x2 - x0", "x1^2 - 1"));
        Tools.due("class 2", Tools.chain(x, 2), "100*x1 + 1*x2");
        Tools.due("class 1", Tools.chain(x, 1), "100*x0 + 1*x1");
        Tools.due("class 0", Tools.chain(x, 0), "100 + 1*x0^2");
        Tools.due("chainSize()", x.chainSize(), 3);
    }

    private static void contradictions() {
        Tools.proved(INCONSISTENT, Tools.with(4, 2, "", "5"));
        Tools.proved(INCONSISTENT, Tools.with(4, 2, "", "", "", "", "", "", "", "", "100"));
        Tools.proved(INCONSISTENT, Tools.with(0, 1, "x0", "x0", "1"));
        Tools.proved(INCONSISTENT, Tools.with(4, 2, "x0", "x0", "x0 + 1"));
        Tools.proved(INCONSISTENT, Tools.with(4, 3, "", "x2 - x1", "x2 - x1 - 1"));
        Tools.proved(INCONSISTENT, Tools.with(4, 3, "", "x2 - x1", "x2 - x0", "x1 - x0 - 1"));
        // A constant that is zero modulo p is no constant.
        Tools.proved(PROVED, Tools.with(4, 2, "", "101"));
        Tools.proved(PROVED, Tools.with(4, 2, "", "x0", "x0 + 101"));
        // A constant conclusion is no contradiction.
        Tools.proved(NOT_PROVED, Tools.with(4, 2, "1", "x0"));
    }

    private static void contradictionOrOverflow() {
        String base = "x1 + x0^15";
        String toConstant = "x1 + x0^15 + 1";
        String toOverflow = "x0*x1";
        Tools.proved(OVERFLOW, Tools.with(4, 2, "", base, toOverflow));
        Tools.proved(INCONSISTENT, Tools.with(4, 2, "", base, toConstant, toOverflow));
        Tools.proved(OVERFLOW, Tools.with(4, 2, "", base, toOverflow, toConstant));
        Tools.proved(INCONSISTENT, Tools.with(4, 2, "", base, toOverflow, toConstant, "1"));
        // The higher class comes first.
        Tools.proved(OVERFLOW, Tools.with(4, 3, "", "x0", "x0 + 1", "x2 + x1^15", "x1*x2"));
        Tools.proved(INCONSISTENT, Tools.with(4, 3, "", "x2", "x2 + 1", "x1 + x0^15", "x0*x1"));
    }

    private static void reduction() {
        WuProver x = Tools.proved(PROVED, Tools.with(4, 2, "x1^2 - x0^2", "x1 - x0"));
        Tools.due("multiplier(1)", x.multiplier(1), 2);
        Tools.due("quotient", Tools.quotient(x, 1), "1*x0 + 1*x1");
        Tools.due("remainder", Tools.remainder(x), "0");
        // Below the degree of the chain no round is made.
        x = Tools.proved(NOT_PROVED, Tools.with(4, 2, "x1^2 + x0", "x1^3 - x0"));
        Tools.due("multiplier(1)", x.multiplier(1), 0);
        Tools.due("quotient", Tools.quotient(x, 1), "0");
        Tools.due("remainder", Tools.remainder(x), "1*x0 + 1*x1^2");
        Tools.due("multiplier(0)", x.multiplier(0), -1);
        // Nothing is left for the lower classes.
        x = Tools.proved(PROVED, Tools.with(4, 2, "x1*x0", "x1", "x0 - 1"));
        Tools.due("multiplier(1)", x.multiplier(1), 1);
        Tools.due("multiplier(0)", x.multiplier(0), 0);
        Tools.due("quotient 1", Tools.quotient(x, 1), "1*x0");
        Tools.due("quotient 0", Tools.quotient(x, 0), "0");
        // A zero conclusion.
        x = Tools.proved(PROVED, Tools.with(4, 2, "", "x1 - x0", "x0^2 - 1"));
        Tools.due("multiplier(1)", x.multiplier(1), 0);
        Tools.due("multiplier(0)", x.multiplier(0), 0);
        Tools.due("remainder", Tools.remainder(x), "0");
    }

    private static void everyRoundCounts() {
        // The degree falls by two in the first round; the second still multiplies by the initial x0.
        WuProver x = Tools.proved(PROVED, Tools.with(4, 2, "x0*x1^2 + x1", "x0*x1 + 1"));
        Tools.due("multiplier(1)", x.multiplier(1), 2);
        Tools.due("quotient", Tools.quotient(x, 1), "1*x0^2*x1");
        x = Tools.proved(NOT_PROVED, Tools.with(4, 2, "x0*x1^2 + x1 + 1", "x0*x1 + 1"));
        Tools.due("multiplier(1)", x.multiplier(1), 2);
        Tools.due("quotient", Tools.quotient(x, 1), "1*x0^2*x1");
        Tools.due("remainder", Tools.remainder(x), "1*x0^2");
        // The same in the chain: x0*x1^2 + x1 + x0 by x0*x1 + 1 leaves x0^2, then x0^3.
        x = Tools.proved(PROVED, Tools.with(4, 2, "", "x0*x1 + 1", "x0*x1^2 + x1 + x0"));
        Tools.due("chain 0", Tools.chain(x, 0), "1*x0^3");
    }

    private static void quotientsAreRaised() {
        WuProver x = Tools.proved(NOT_PROVED, Tools.with(4, 3, "x2", "x2 - x1", "x0*x1 - 1"));
        Tools.due("quotient 2", Tools.quotient(x, 2), "1*x0");
        Tools.due("quotient 1", Tools.quotient(x, 1), "1");
        Tools.due("remainder", Tools.remainder(x), "1");
        Tools.due("multiplier(2)", x.multiplier(2), 1);
        Tools.due("multiplier(1)", x.multiplier(1), 1);
        // k times: x1^2 takes two rounds with the initial 3*x0.
        x = Tools.proved(NOT_PROVED, Tools.with(4, 3, "x2*x1", "x2 - x1", "3*x0*x1 - 1"));
        Tools.due("quotient 2", Tools.quotient(x, 2), "9*x0^2*x1");
        Tools.due("quotient 1", Tools.quotient(x, 1), "1 + 3*x0*x1");
        Tools.due("remainder", Tools.remainder(x), "1");
        Tools.due("multiplier(1)", x.multiplier(1), 2);
    }

    private static void overflowOfExponents() {
        // Remainder: x0^15 is fine, x0^16 is not, in the chain and in the reduction.
        Tools.proved(PROVED, Tools.with(4, 2, "", "x0^15*x1 + 1", "x0^15*x1 + 2"));
        Tools.proved(OVERFLOW, Tools.with(4, 2, "", "x0^15*x1 + 1", "x0^15*x1 + x0"));
        WuProver x = Tools.proved(NOT_PROVED, Tools.with(4, 2, "x0^14*x1", "x1 - x0"));
        Tools.due("remainder", Tools.remainder(x), "1*x0^15");
        Tools.proved(OVERFLOW, Tools.with(4, 2, "x0^15*x1", "x1 - x0"));
        // Each exponent has its own limit.
        for (int v = 0; v < 5; v++) {
            Tools.proved(NOT_PROVED, Tools.with(4, 6, "x" + v + "^14*x5", "x5 - x" + v));
            Tools.proved(OVERFLOW, Tools.with(4, 6, "x" + v + "^15*x5", "x5 - x" + v));
        }
        // The quotient alone, in its second round; the same division is fine in the chain.
        Tools.proved(PROVED, Tools.with(4, 2, "x0^14*x1^2", "x0*x1"));
        Tools.proved(OVERFLOW, Tools.with(4, 2, "x0^15*x1^2", "x0*x1"));
        Tools.proved(PROVED, Tools.with(4, 2, "", "x0*x1", "x0^15*x1^2"));
        // A raised quotient alone.
        x = Tools.proved(NOT_PROVED, Tools.with(4, 3, "x0^14*x2", "x2 - x1", "x0*x1 - 1"));
        Tools.due("quotient 2", Tools.quotient(x, 2), "1*x0^15");
        Tools.proved(OVERFLOW, Tools.with(4, 3, "x0^15*x2", "x2 - x1", "x0*x1 - 1"));
    }

    private static void overflowOfTerms() {
        StringBuilder powers = new StringBuilder();
        for (int e = 1; e <= 15; e++) {
            powers.append(" + x0^").append(e);
        }
        // Sixteen terms stay sixteen with one more term in the divisor, seventeen with two.
        WuProver x = Tools.proved(NOT_PROVED, Tools.with(4, 3, "x2" + powers, "x2 + 1"));
        Tools.due("sixteen terms", x.termCount(WuProver.KIND_REMAINDER, 0), 16);
        Tools.proved(OVERFLOW, Tools.with(4, 3, "x2" + powers, "x2 + x1 + 1"));
        x = Tools.proved(PROVED, Tools.with(4, 3, "", "x2 + 1", "x2" + powers));
        Tools.due("sixteen terms", x.termCount(WuProver.KIND_CHAIN, 0), 16);
        Tools.proved(OVERFLOW, Tools.with(4, 3, "", "x2 + x1 + 1", "x2" + powers));
    }

    private static void uncheckedValues() {
        // The products of one round have exponents up to 30 and more than 16 terms, and cancel.
        StringBuilder wide = new StringBuilder();
        for (int e = 0; e < 8; e++) {
            wide.append(" + x0^").append(e).append("*x1 + x0^").append(e + 8);
        }
        WuProver x = Tools.proved(PROVED, Tools.with(4, 2, wide.toString(), wide.toString(), wide.toString()));
        Tools.due("chainSize()", x.chainSize(), 1);
        Tools.due("multiplier(1)", x.multiplier(1), 1);
        Tools.due("quotient", x.termCount(WuProver.KIND_QUOTIENT, 1), 8);
        // The greatest monomial of all.
        String top = "x0^15*x1^15*x2^15*x3^15*x4^15*x5^15";
        x = Tools.proved(PROVED, Tools.with(7, 6, top, top, top));
        Tools.due("quotient", Tools.quotient(x, 5), "1*x0^15*x1^15*x2^15*x3^15*x4^15");
    }

    private static void fromScratch() {
        WuProver x = Tools.proved(NOT_PROVED, Tools.with(4, 3, "x2", "x2 - x1", "x0*x1 - 1"));
        String first = Tools.everything(x);
        Tools.proved(NOT_PROVED, x);
        Tools.due("the same again", Tools.everything(x), first);
        Tools.enter(x, 7, "1");
        Tools.proved(INCONSISTENT, x);
        x.clearPoly(7);
        Tools.proved(NOT_PROVED, x);
        Tools.due("as before the contradiction", Tools.everything(x), first);
        Tools.enter(x, 8, "x0^15*x2");
        Tools.proved(OVERFLOW, x);
        x.addTerm(8, -1, 15 + 256);
        Tools.proved(NOT_PROVED, x);
        Tools.due("as before the overflow", Tools.everything(x), first);
    }

    private static void parallelogram() {
        // The diagonals of a parallelogram cut each other in half. The corners are (0, 0), (x0, 0),
        // (x0 + x1, x2) and (x1, x2); (x3, x4) lies on both diagonals.
        String onFirst = "x0*x4 + x1*x4 - x2*x3";
        String onSecond = "x1*x4 - x0*x4 - x2*x3 + x0*x2";
        WuProver x = Tools.proved(PROVED, Tools.with(7, 5, "2*x3 - x0 - x1", onFirst, onSecond));
        Tools.due("chainSize()", x.chainSize(), 2);
        Tools.due("check()", x.check(), WuProver.CHECK_OK);
        Tools.proved(NOT_PROVED, Tools.with(7, 5, "2*x3 - x0 - 2*x1", onFirst, onSecond));
    }
}
