/** The boundary cases that 'Terms used' names for all promises: sizes, rounds and clearing. */
public final class BoundaryTermsTest {
    private static final int PROVED = WuProver.STATUS_PROVED;
    private static final int NOT_PROVED = WuProver.STATUS_NOT_PROVED;
    private static final int OVERFLOW = WuProver.STATUS_OVERFLOW;

    public static void main(String[] args) {
        Tools.test("deg_v(P) is the greatest e_v over the terms of P, and -1 for the zero polynomial.",
                BoundaryTermsTest::degrees);
        Tools.test("The coefficient of x_v^e in P is the polynomial made of the terms of P whose exponent of x_v is e",
                BoundaryTermsTest::coefficients);
        Tools.test("A polynomial with more than 16 terms or with some exponent above 15 is oversized. -- 16 terms",
                BoundaryTermsTest::sixteenTerms);
        Tools.test("A polynomial with more than 16 terms or with some exponent above 15 is oversized. -- exponent 15",
                BoundaryTermsTest::exponentFifteen);
        Tools.test("A value said to be CHECKED ends the whole computation at once if it is oversized",
                BoundaryTermsTest::atOnce);
        Tools.test("Values not said to be checked, such as products inside one update, are never limited. -- terms",
                BoundaryTermsTest::manyTermsInside);
        Tools.test("Values not said to be checked, such as products inside one update, are never limited. -- exponents",
                BoundaryTermsTest::greatExponentsInside);
        Tools.test("If d < m: k = 0, Q = 0, R = A, and no rounds are made.", BoundaryTermsTest::noRounds);
        Tools.test("Otherwise k = d - m + 1", BoundaryTermsTest::numberOfRounds);
        Tools.test("then exactly k rounds", BoundaryTermsTest::everyRoundIsMade);
        Tools.test("else: R := I*R; Q := I*Q.", BoundaryTermsTest::roundsWithoutALead);
        Tools.test("Result: I^k * A = Q*B + R with deg_v(R) < m.", BoundaryTermsTest::result);
        Tools.test("Inputs are not touched by clearing.", BoundaryTermsTest::clearing);
        Tools.end();
    }

    private static void degrees() {
        // The zero polynomial is below every degree, a constant below every degree from 1 on.
        WuProver x = Tools.proved(PROVED, Tools.with(4, 2, "", "2*x1", "2*x0"));
        Tools.due("zero by x1", x.multiplier(1), 0);
        Tools.due("zero by x0", x.multiplier(0), 0);
        x = Tools.proved(NOT_PROVED, Tools.with(4, 2, "5", "2*x1", "2*x0"));
        Tools.due("a constant by x1", x.multiplier(1), 0);
        Tools.due("a constant by x0", x.multiplier(0), 0);
        Tools.due("stays", Tools.remainder(x), "5");
        // The greatest exponent is not always in the term of the greatest code.
        x = Tools.proved(NOT_PROVED, Tools.with(4, 3, "x2 + x1^5 + x0^7", "2*x1"));
        Tools.due("the degree in x1 is 5", x.multiplier(1), 5);
        x = Tools.proved(NOT_PROVED, Tools.with(4, 3, "x2 + x1^5 + x0^7", "2*x0"));
        Tools.due("the degree in x0 is 7", x.multiplier(0), 7);
    }

    private static void coefficients() {
        // The lead of x1^15 is one term, that of x1 fifteen; only that of the degree is the initial.
        WuProver x = Tools.with(4, 2, "x0*x1^15", "3*x1^15" + fifteenTimes("x1"));
        Tools.proved(NOT_PROVED, x);
        Tools.due("Q_1", Tools.quotient(x, 1), "1*x0");
        Tools.due("the remainder", x.termCount(WuProver.KIND_REMAINDER, 0), 15);
        // The initial itself has fifteen terms, and is found in the middle of the codes.
        x = Tools.proved(NOT_PROVED, Tools.with(4, 2, "x1", "1" + fifteenTimes("x1")));
        Tools.due("Q_1", Tools.quotient(x, 1), "1");
        Tools.due("the remainder", Tools.remainder(x), "100");
    }

    /** " + x0^0*f + .. + x0^14*f". */
    private static String fifteenTimes(String factor) {
        StringBuilder text = new StringBuilder();
        for (int e = 0; e < 15; e++) {
            text.append(" + x0^").append(e).append('*').append(factor);
        }
        return text.toString();
    }

    private static void sixteenTerms() {
        for (int terms = 14; terms <= 17; terms++) {
            // x2 goes, and "terms - 15" new ones come beside the fifteen powers of x0.
            StringBuilder divisor = new StringBuilder("x2");
            for (int i = 16; i <= terms; i++) {
                divisor.append(" + x1^").append(i - 15);
            }
            String conclusion = "x2" + Tools.powers(0, 1, terms == 14 ? 14 : 15);
            WuProver x = Tools.with(4, 3, conclusion, divisor.toString());
            Tools.proved(terms <= 16 ? NOT_PROVED : OVERFLOW, x);
            Tools.due("the terms", x.termCount(WuProver.KIND_REMAINDER, 0), terms <= 16 ? terms : 0);
        }
    }

    private static void exponentFifteen() {
        for (int v = 0; v < 5; v++) {
            for (int e = 14; e <= 16; e++) {
                String conclusion = "x" + v + "^" + (e - 1) + "*x5";
                WuProver x = Tools.with(4, 6, conclusion, "x5 - x" + v);
                Tools.proved(e <= 15 ? NOT_PROVED : OVERFLOW, x);
                Tools.due("the remainder", Tools.remainder(x), e <= 15 ? "1*x" + v + "^" + e : "0");
            }
        }
        // All exponents at 15 at once.
        WuProver x = Tools.with(4, 6, "x0^14*x1^14*x2^14*x3^14*x4^14*x5^15", "x5^15 - x0*x1*x2*x3*x4");
        Tools.proved(NOT_PROVED, x);
        Tools.due("the remainder", Tools.remainder(x), "1*x0^15*x1^15*x2^15*x3^15*x4^15");
    }

    private static void atOnce() {
        // After its second round nothing would be left, after its first there is x0^16*x1.
        Tools.proved(PROVED, Tools.with(4, 2, "", "x0*x1", "x1^2 + x0^14*x1"));
        Tools.proved(OVERFLOW, Tools.with(4, 2, "", "x0*x1", "x1^2 + x0^15*x1"));
        // What comes later, here a contradiction, is not looked at any more.
        Tools.proved(OVERFLOW, Tools.with(4, 2, "", "x0*x1", "x1^2 + x0^15*x1", "x0", "x0 - 1"));
        Tools.proved(OVERFLOW, Tools.with(4, 2, "x0*x1", "x1 - x0^15", "x0 - 1"));
    }

    private static void manyTermsInside() {
        // 16 * 16 products of different monomials, and each is taken away again.
        StringBuilder dividend = new StringBuilder();
        StringBuilder divisor = new StringBuilder();
        for (int e = 0; e < 16; e++) {
            dividend.append(" + x1^").append(e).append("*x2");
            divisor.append(" + x0^").append(e).append("*x2");
        }
        WuProver x = Tools.with(7, 3, dividend.toString(), divisor.toString());
        Tools.proved(PROVED, x);
        Tools.due("the quotient", x.termCount(WuProver.KIND_QUOTIENT, 2), 16);
        Tools.due("check()", x.check(), WuProver.CHECK_TOO_BIG);
        x = Tools.proved(PROVED, Tools.with(7, 3, "", divisor.toString(), dividend.toString()));
        Tools.due("chainSize()", x.chainSize(), 1);
        // The same where 15 * 16 of them stay: that is oversized, and no more than that.
        String loose = dividend.toString().replace("x1^3*x2", "x1^3*x2^2");
        Tools.proved(OVERFLOW, Tools.with(7, 3, loose, divisor.toString()));
        Tools.proved(OVERFLOW, Tools.with(7, 3, "", divisor.toString(), loose));
        manyTermsInAQuotient();
        manyTermsInACheck();
    }

    private static void manyTermsInAQuotient() {
        // The remainder keeps sixteen terms; the second quotient has 15 * 16 products and sixteen terms beside them.
        StringBuilder dividend = new StringBuilder();
        for (int e = 0; e < 16; e++) {
            dividend.append(" + x1^").append(e).append("*x2^2");
        }
        Tools.proved(OVERFLOW, Tools.with(7, 3, dividend.toString(), "1" + fifteenTimes("x2")));
        WuProver x = Tools.with(7, 3, "", "1" + fifteenTimes("x2"), dividend.toString());
        Tools.proved(PROVED, x);
        Tools.due("the remainder, whose quotient is not checked", x.termCount(WuProver.KIND_CHAIN, 1), 16);
    }

    private static void manyTermsInACheck() {
        // The left side is x3 * I, with sixteen terms in I; Q_3*T_3 is I * (x3 + ..) with 16 * 16 terms.
        StringBuilder third = new StringBuilder("x3");
        StringBuilder second = new StringBuilder();
        for (int e = 0; e < 16; e++) {
            third.append(e < 15 ? " + x1^" + e + "*x2" : "");
            second.append(" + x0^").append(e).append("*x2");
        }
        WuProver x = Tools.with(7, 4, "x3", third.toString(), second.toString());
        Tools.proved(PROVED, x);
        Tools.due("Q_3", x.termCount(WuProver.KIND_QUOTIENT, 3), 16);
        Tools.due("T_3", x.termCount(WuProver.KIND_CHAIN, 3), 16);
        Tools.kept("check()", x, x::check, WuProver.CHECK_TOO_BIG);
    }

    private static void greatExponentsInside() {
        // The initial and the lead both have exponents of 15: their product has exponents of 30.
        String top = "x0^15*x1^15*x2^15*x3^15*x4^15*x5";
        WuProver x = Tools.proved(PROVED, Tools.with(7, 6, top, top));
        Tools.due("the quotient", Tools.quotient(x, 5), "1*x0^15*x1^15*x2^15*x3^15*x4^15");
        x = Tools.proved(PROVED, Tools.with(7, 6, "", top, "3*" + top));
        Tools.due("chainSize()", x.chainSize(), 1);
        // x0^16 is oversized, and not x1: if an exponent ran over into the next one, nothing would be left here.
        for (int v = 0; v < 4; v++) {
            Tools.proved(OVERFLOW, Tools.with(7, 6, "x" + v + "^15*x5 - x" + (v + 1), "x5 - x" + v));
        }
    }

    private static void noRounds() {
        for (int m = 1; m <= 15; m++) {
            for (int d = 0; d < m; d++) {
                WuProver x = Tools.with(4, 2, "x0^15*x1^" + d, "x0^15*x1^" + m + " + x0");
                Tools.proved(NOT_PROVED, x);
                Tools.due("k", x.multiplier(1), 0);
                Tools.due("Q", Tools.quotient(x, 1), "0");
                Tools.due("R", Tools.show(x, WuProver.KIND_REMAINDER, 0), Tools.show(x, WuProver.KIND_CONCLUSION, 0));
            }
        }
    }

    private static void numberOfRounds() {
        for (int m = 1; m <= 15; m++) {
            for (int d = m; d <= 15; d++) {
                WuProver x = Tools.proved(PROVED, Tools.with(4, 1, "x0^" + d, "x0^" + m));
                Tools.due("k of " + d + " by " + m, x.multiplier(0), d - m + 1);
                Tools.due("Q", x.termCode(WuProver.KIND_QUOTIENT, 0, 0), d - m);
            }
        }
    }

    private static void everyRoundIsMade() {
        // The first round takes all away; each of the others still multiplies the quotient by the initial 2.
        int power = 1;
        for (int d = 1; d <= 15; d++) {
            WuProver x = Tools.proved(PROVED, Tools.with(4, 1, "x0^" + d, "2*x0"));
            Tools.due("k", x.multiplier(0), d);
            Tools.due("the coefficient of Q", x.termCoef(WuProver.KIND_QUOTIENT, 0, 0), power);
            power = power * 2 % 101;
        }
    }

    private static void roundsWithoutALead() {
        // After the first round 2 is left, which each of the others doubles.
        int power = 2;
        for (int d = 1; d <= 15; d++) {
            WuProver x = Tools.proved(NOT_PROVED, Tools.with(4, 1, "x0^" + d + " + 1", "2*x0"));
            Tools.due("R", Tools.remainder(x), Integer.toString(power));
            power = power * 2 % 101;
        }
        // The degree falls from 3 to 1 at once: the second round has no lead.
        WuProver x = Tools.proved(NOT_PROVED, Tools.with(4, 2, "x1^3 + x0", "x0*x1^2 + 1"));
        Tools.due("k", x.multiplier(1), 2);
        Tools.due("Q", Tools.quotient(x, 1), "1*x0*x1");
        Tools.due("R", Tools.remainder(x), "1*x0^3 + 100*x0*x1");
    }

    private static void result() {
        // 2^2 * (x0^2 + x0 + 1) = (2*x0 + 3)*(2*x0 - 1) + 7
        WuProver x = Tools.proved(NOT_PROVED, Tools.with(4, 1, "x0^2 + x0 + 1", "2*x0 - 1"));
        Tools.due("k", x.multiplier(0), 2);
        Tools.due("Q", Tools.quotient(x, 0), "3 + 2*x0");
        Tools.due("R", Tools.remainder(x), "7");
        // R has the degree m - 1, the greatest that it can have: x0^15 by x0^8 + x0^7.
        x = Tools.proved(NOT_PROVED, Tools.with(4, 1, "x0^15", "x0^8 + x0^7"));
        Tools.due("R", Tools.remainder(x), "1*x0^7");
    }

    private static void clearing() {
        for (int status = 0; status <= 4; status++) {
            WuProver x = Tools.inStatus(status);
            String inputs = Tools.inputs(x);
            x.addTerm(5, 0, 0);
            Tools.due("after addTerm()", Tools.inputs(x), inputs);
            x.prove();
            x.clearPoly(5);
            Tools.due("after clearPoly()", Tools.inputs(x), inputs);
            Tools.due("the results", Tools.results(x), Tools.clearedResults(3, WuProver.STATUS_IDLE));
        }
    }
}
