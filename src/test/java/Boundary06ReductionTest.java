/** The boundary cases of promise 6, steps 3 and 4, and of its ends. Each stands under the words that name it. */
public final class Boundary06ReductionTest {
    private static final int PROVED = WuProver.STATUS_PROVED;
    private static final int NOT_PROVED = WuProver.STATUS_NOT_PROVED;
    private static final int INCONSISTENT = WuProver.STATUS_INCONSISTENT;
    private static final int OVERFLOW = WuProver.STATUS_OVERFLOW;

    // Modulo 2, times 1 + x0 these have 16 and 18 terms, and times (1 + x0)^2 = 1 + x0^2 four again.
    private static final String[] EIGHT = {"1", "x0^2", "x0^4", "x0^6", "x0^8", "x1", "x0^2*x1", "x0^4*x1"};
    private static final String[] NINE = {"1", "x0^2", "x0^4", "x0^6", "x0^8", "x1", "x0^2*x1", "x0^4*x1", "x0^6*x1"};

    public static void main(String[] args) {
        Tools.test("For v = V-1 down to 0 with T_v nonzero", Boundary06ReductionTest::everyClass);
        Tools.test("with R and Q' checked after every round -- R has exponents of 15 and 16",
                Boundary06ReductionTest::remainderExponents);
        Tools.test("with R and Q' checked after every round -- R has 16 and 17 terms",
                Boundary06ReductionTest::remainderTerms);
        Tools.test("with R and Q' checked after every round -- R is oversized in its first round alone",
                Boundary06ReductionTest::remainderOnTheWay);
        Tools.test("with R and Q' checked after every round -- Q' has exponents of 15 and 16",
                Boundary06ReductionTest::quotientExponents);
        Tools.test("with R and Q' checked after every round -- Q' has 16 and 18 terms",
                Boundary06ReductionTest::quotientTerms);
        Tools.test("with R and Q' checked after every round -- Q' is oversized in its second round alone",
                Boundary06ReductionTest::quotientOnTheWay);
        Tools.test("k times Q_u := initial(T_v) * Q_u, each checked -- exponents of 15 and 16",
                Boundary06ReductionTest::raisedExponents);
        Tools.test("k times Q_u := initial(T_v) * Q_u, each checked -- 16 and 18 terms",
                Boundary06ReductionTest::raisedTerms);
        Tools.test("k times Q_u := initial(T_v) * Q_u, each checked -- oversized the first time alone",
                Boundary06ReductionTest::raisedOnTheWay);
        Tools.test("k times Q_u := initial(T_v) * Q_u, each checked -- none, one and fifteen times",
                Boundary06ReductionTest::raisedHowOften);
        Tools.test("for each u from V-1 down to v+1 with T_u nonzero", Boundary06ReductionTest::raisedWhich);
        Tools.test("Any oversized checked value: stop with STATUS_OVERFLOW.", Boundary06ReductionTest::lastClass);
        Tools.test("For v with T_v zero, k_v stays -1 and Q_v stays zero.", Boundary06ReductionTest::noElement);
        Tools.test("Status := STATUS_PROVED if R is zero, else STATUS_NOT_PROVED.", Boundary06ReductionTest::statuses);
        Tools.test("A stop with STATUS_INCONSISTENT or STATUS_OVERFLOW clears the results -- in the reduction",
                Boundary06ReductionTest::stopClears);
        Tools.test("afterwards every T_v, Q_v and R is zero and every k_v is -1", Boundary06ReductionTest::afterwards);
        Tools.test("The inputs H_0..H_7 and G never change.", Boundary06ReductionTest::inputsStay);
        Tools.test("with all hypotheses zero the chain is empty and R = G, so the status is STATUS_PROVED exactly when"
                + " G is zero", Boundary06ReductionTest::noHypotheses);
        Tools.test("a zero G always ends with R zero unless an earlier stop occurs",
                Boundary06ReductionTest::zeroConclusion);
        Tools.test("where deg_v(R) is below deg_v(T_v), no rounds are made, k_v becomes 0 and Q_v stays zero",
                Boundary06ReductionTest::belowTheDegree);
        Tools.test("for every v with T_v nonzero, T_v has class v and k_v >= 0", Boundary06ReductionTest::chainClasses);
        Tools.end();
    }

    private static String times(String factor, String... terms) {
        return String.join("*" + factor + " + ", terms) + "*" + factor;
    }

    private static void everyClass() {
        WuProver x = Tools.with(4, 6, "x5", "x5 - x4", "x4 - x3", "x3 - x2", "x2 - x1", "x1 - x0", "x0 - 7");
        Tools.proved(NOT_PROVED, x);
        Tools.due("the remainder", Tools.remainder(x), "7");
        for (int v = 0; v < 6; v++) {
            Tools.due("multiplier(" + v + ")", x.multiplier(v), 1);
            Tools.due("Q_" + v, Tools.quotient(x, v), "1");
        }
        x = Tools.proved(NOT_PROVED, Tools.with(4, 1, "x0", "x0 - 7"));
        Tools.due("with one variable", Tools.remainder(x), "7");
    }

    private static void remainderExponents() {
        for (int v = 0; v < 5; v++) {
            for (int e = 0; e <= 15; e++) {
                // The remainder is x_v^(15 + e), up to x_v^30.
                String divisor = "x5 - x" + v + "^" + e;
                WuProver x = Tools.with(4, 6, "x" + v + "^15*x5", divisor);
                Tools.proved(e == 0 ? NOT_PROVED : OVERFLOW, x);
                x = Tools.with(4, 6, "x" + v + "^" + (15 - e) + "*x5", divisor);
                Tools.proved(NOT_PROVED, x);
                Tools.due("the remainder", Tools.remainder(x), "1*x" + v + "^15");
            }
        }
    }

    private static void remainderTerms() {
        WuProver x = Tools.proved(NOT_PROVED, Tools.with(4, 3, "x2" + Tools.powers(0, 1, 15), "x2 + 1"));
        Tools.due("sixteen terms", x.termCount(WuProver.KIND_REMAINDER, 0), 16);
        Tools.proved(OVERFLOW, Tools.with(4, 3, "x2" + Tools.powers(0, 1, 15), "x2 + x1 + 1"));
        // Terms that fall together count once, and terms that cancel do not count.
        x = Tools.proved(NOT_PROVED, Tools.with(4, 3, "x2" + Tools.powers(0, 1, 15), "x2 + x0 + 1"));
        Tools.due("the term x0 cancels", x.termCount(WuProver.KIND_REMAINDER, 0), 15);
        x = Tools.proved(NOT_PROVED, Tools.with(4, 3, "x2" + Tools.powers(0, 1, 15), "x2 - x0 + 1"));
        Tools.due("the term x0 is there twice", x.termCount(WuProver.KIND_REMAINDER, 0), 16);
    }

    private static void remainderOnTheWay() {
        // Modulo 2, x1 + x0 + 1 goes into this; on the way, n + 2 terms are left. The quotient is x1 + n terms.
        for (int n = 14; n <= 15; n++) {
            StringBuilder dividend = new StringBuilder("x1^2 + 1 + x0^" + n);
            for (int e = 2; e < n; e++) {
                dividend.append(" + x0^").append(e).append("*x1");
            }
            WuProver x = Tools.with(0, 2, dividend.toString(), "x1 + x0 + 1");
            Tools.proved(n == 14 ? PROVED : OVERFLOW, x);
            Tools.due("the quotient", x.termCount(WuProver.KIND_QUOTIENT, 1), n == 14 ? 15 : 0);
        }
    }

    private static void quotientExponents() {
        for (int e = 13; e <= 15; e++) {
            // x0^(e+1)*x1 is the quotient, and nothing is left.
            WuProver x = Tools.proved(e < 15 ? PROVED : OVERFLOW, Tools.with(4, 2, "x0^" + e + "*x1^2", "x0*x1"));
            Tools.due("the quotient", Tools.quotient(x, 1), e < 15 ? "1*x0^" + (e + 1) + "*x1" : "0");
        }
        // One round does not multiply the quotient yet.
        WuProver x = Tools.proved(PROVED, Tools.with(4, 2, "x0^15*x1", "x0^15*x1"));
        Tools.due("the quotient", Tools.quotient(x, 1), "1*x0^15");
    }

    private static void quotientTerms() {
        WuProver x = Tools.proved(PROVED, Tools.with(4, 3, times("x2^2", EIGHT), "x0*x2 + x2"));
        Tools.due("the quotient", x.termCount(WuProver.KIND_QUOTIENT, 2), 16);
        Tools.proved(OVERFLOW, Tools.with(4, 3, times("x2^2", NINE), "x0*x2 + x2"));
        // Sixteen terms in one round: a quotient can be as long as a conclusion.
        String sixteen = times("x1", Tools.powers(0, 0, 15).substring(3).split(" \\+ "));
        x = Tools.proved(PROVED, Tools.with(4, 2, sixteen, "x1"));
        Tools.due("the quotient", x.termCount(WuProver.KIND_QUOTIENT, 1), 16);
    }

    private static void quotientOnTheWay() {
        WuProver x = Tools.proved(PROVED, Tools.with(0, 3, times("x2^3", EIGHT), "x0*x2 + x2"));
        Tools.due("multiplier(2)", x.multiplier(2), 3);
        Tools.due("the quotient", Tools.quotient(x, 2),
                "1*x2^2 + 1*x0^10*x2^2 + 1*x1*x2^2 + 1*x0^6*x1*x2^2");
        Tools.proved(OVERFLOW, Tools.with(0, 3, times("x2^3", NINE), "x0*x2 + x2"));
    }

    private static void raisedExponents() {
        WuProver x = Tools.proved(NOT_PROVED, Tools.with(4, 3, "x0^14*x2", "x2 - x1", "x0*x1 - 1"));
        Tools.due("Q_2", Tools.quotient(x, 2), "1*x0^15");
        Tools.proved(OVERFLOW, Tools.with(4, 3, "x0^15*x2", "x2 - x1", "x0*x1 - 1"));
    }

    private static void raisedTerms() {
        WuProver x = Tools.proved(PROVED, Tools.with(4, 4, times("x3", EIGHT) + " + x2", "x3", "x0*x2 + x2"));
        Tools.due("Q_3", x.termCount(WuProver.KIND_QUOTIENT, 3), 16);
        Tools.proved(OVERFLOW, Tools.with(4, 4, times("x3", NINE) + " + x2", "x3", "x0*x2 + x2"));
    }

    private static void raisedOnTheWay() {
        WuProver x = Tools.proved(PROVED, Tools.with(0, 4, times("x3", EIGHT) + " + x2^2", "x3", "x0*x2 + x2"));
        Tools.due("multiplier(2)", x.multiplier(2), 2);
        Tools.due("Q_3", Tools.quotient(x, 3), "1 + 1*x0^10 + 1*x1 + 1*x0^6*x1");
        Tools.proved(OVERFLOW, Tools.with(0, 4, times("x3", NINE) + " + x2^2", "x3", "x0*x2 + x2"));
    }

    private static void raisedHowOften() {
        // The initial is 2 and the conclusion x2 + x1^e: Q_2 becomes 2^e.
        int power = 1;
        for (int e = 0; e <= 15; e++) {
            WuProver x = Tools.proved(e == 0 ? NOT_PROVED : PROVED, Tools.with(4, 3, "x2 + x1^" + e, "x2", "2*x1"));
            Tools.due("multiplier(1)", x.multiplier(1), e);
            Tools.due("Q_2 after " + e + " times", Tools.quotient(x, 2), Integer.toString(power));
            power = power * 2 % 101;
        }
    }

    private static void raisedWhich() {
        // Every quotient above v is raised; that of v itself and those below are not.
        WuProver x = Tools.with(4, 6, "x5 + x4 + x3 + x2 + x1 + x0", "2*x5", "3*x4", "5*x3", "7*x2", "11*x1", "13*x0");
        Tools.proved(PROVED, x);
        // Q_v is the product of the initials of all the others, modulo 101; the product of all is 30030.
        int[] initials = {13, 11, 7, 5, 3, 2};
        for (int v = 0; v < 6; v++) {
            Tools.due("Q_" + v, Tools.quotient(x, v), Integer.toString(30030 / initials[v] % 101));
        }
        // A gap in the chain, and a quotient that is zero, stay zero.
        x = Tools.proved(PROVED, Tools.with(4, 6, "x5 + x1", "2*x5", "3*x3", "7*x1"));
        Tools.due("Q_5", Tools.quotient(x, 5), "7");
        Tools.due("Q_4", Tools.quotient(x, 4), "0");
        Tools.due("Q_3", Tools.quotient(x, 3), "0");
        Tools.due("Q_2", Tools.quotient(x, 2), "0");
        Tools.due("Q_1", Tools.quotient(x, 1), "2");
    }

    private static void lastClass() {
        // There is no T_1; by T_0, x0^2 times eight powers of x1 leaves 2 * 8 terms, and x2*x1^8 has left x1^9.
        String many = times("x0^2", "x1", "x1^2", "x1^3", "x1^4", "x1^5", "x1^6", "x1^7", "x1^8");
        Tools.proved(OVERFLOW, Tools.with(4, 3, "x2*x1^8 + " + many, "x2 - x1", "x0^2 + x0 + 1"));
        WuProver x = Tools.proved(NOT_PROVED, Tools.with(4, 3, many, "x2 - x1", "x0^2 + x0 + 1"));
        Tools.due("2 * 8 terms", x.termCount(WuProver.KIND_REMAINDER, 0), 16);
        // With one variable a degree cannot grow: fifteen rounds of sixteen terms go through.
        x = Tools.proved(NOT_PROVED, Tools.with(4, 1, "1" + Tools.powers(0, 1, 15), "2*x0 - 1"));
        Tools.due("multiplier(0)", x.multiplier(0), 15);
    }

    private static void noElement() {
        for (int none = 0; none < 6; none++) {
            WuProver x = new WuProver(4, 6);
            StringBuilder conclusion = new StringBuilder();
            for (int v = 0; v < 6; v++) {
                conclusion.append(" + x").append(v).append("^15");
                Tools.enter(x, v, v == none ? "" : "x" + v);
            }
            Tools.enter(x, 8, conclusion.toString());
            Tools.proved(NOT_PROVED, x);
            Tools.due("the remainder", Tools.remainder(x), "1*x" + none + "^15");
            Tools.due("k_v", x.multiplier(none), -1);
            Tools.due("Q_v", Tools.quotient(x, none), "0");
            Tools.due("k of another", x.multiplier((none + 1) % 6), 15);
        }
    }

    private static void statuses() {
        Tools.proved(PROVED, Tools.with(4, 1, "x0", "x0"));
        Tools.proved(NOT_PROVED, Tools.with(4, 1, "x0 + 1", "x0"));
        Tools.proved(NOT_PROVED, Tools.with(4, 1, "x0 - 1", "x0"));
        Tools.proved(PROVED, Tools.with(4, 1, "x0 + 101", "x0"));
        // One term is left, the last of all codes.
        Tools.proved(NOT_PROVED, Tools.with(4, 6, "x5^15*x4^15*x3^15*x2^15*x1^15*x0^15"));
        // The same in the smallest field: x0^2 + x0 is zero at every point, but it is no zero polynomial.
        Tools.proved(NOT_PROVED, Tools.with(0, 1, "x0^2 + x0"));
        Tools.proved(PROVED, Tools.with(0, 1, "2*x0^2 + 2*x0"));
    }

    private static void stopClears() {
        // The chain stands, and two classes have their multipliers and quotients, when the last one stops.
        WuProver x = Tools.with(4, 3, "x2 + x1", "x2 - x1", "x1 - x0", "x0^2 - 1");
        Tools.proved(NOT_PROVED, x);
        Tools.due("chainSize()", x.chainSize(), 3);
        x = Tools.with(4, 3, "x0^15*x2", "x2 - x1", "x1 - x0", "x0^2 - 1");
        Tools.proved(OVERFLOW, x);
        Tools.due("chainSize()", x.chainSize(), 0);
        // And when there were results from before.
        x.clearPoly(8);
        Tools.enter(x, 8, "x2");
        Tools.proved(NOT_PROVED, x);
        Tools.enter(x, 8, "x0^15*x2");
        Tools.proved(OVERFLOW, x);
    }

    private static void afterwards() {
        for (int status = INCONSISTENT; status <= OVERFLOW; status++) {
            WuProver x = Tools.inStatus(status);
            for (int v = 0; v < 3; v++) {
                Tools.due("T_" + v, Tools.chain(x, v), "0");
                Tools.due("Q_" + v, Tools.quotient(x, v), "0");
                Tools.due("multiplier(" + v + ")", x.multiplier(v), -1);
            }
            Tools.due("R", Tools.remainder(x), "0");
            Tools.due("status()", x.status(), status);
        }
    }

    private static void inputsStay() {
        for (int status = 1; status <= 4; status++) {
            WuProver x = Tools.inStatus(status);
            Tools.due("H_0", Tools.show(x, 0, 0), "100*x1 + 1*x2");
            Tools.due("H_1", Tools.show(x, 0, 1), "100 + 1*x0*x1");
            Tools.due("H_2", Tools.show(x, 0, 2), status == 3 ? "1" : "0");
            String[] conclusions = {"", "100 + 1*x0*x2", "1*x2", "1*x2", "1*x0^15*x2"};
            Tools.due("G", Tools.show(x, 1, 0), conclusions[status]);
        }
        // Eight hypotheses of one class, each of which is divided.
        WuProver x = new WuProver(4, 2);
        for (int i = 0; i < 8; i++) {
            Tools.enter(x, i, "x1^" + (8 - i) + " - x0");
        }
        Tools.proved(PROVED, x);
    }

    private static void noHypotheses() {
        for (int vars = 1; vars <= 6; vars++) {
            WuProver x = Tools.proved(PROVED, new WuProver(4, vars));
            Tools.due("all is zero", Tools.results(x), Tools.clearedResults(vars, PROVED));
            x.addTerm(8, 1, (1 << (4 * vars)) - 1);
            Tools.proved(NOT_PROVED, x);
            Tools.due("chainSize()", x.chainSize(), 0);
            Tools.due("R is G", Tools.remainder(x), Tools.show(x, 1, 0));
        }
        WuProver x = Tools.proved(NOT_PROVED, Tools.with(4, 2, "5"));
        Tools.due("R is the constant G", Tools.remainder(x), "5");
        x = Tools.proved(NOT_PROVED, Tools.with(4, 2, "1" + Tools.powers(0, 1, 15)));
        Tools.due("R has sixteen terms", x.termCount(WuProver.KIND_REMAINDER, 0), 16);
    }

    private static void zeroConclusion() {
        WuProver x = Tools.proved(PROVED, Tools.with(4, 3, "", "x2^15 - x1", "x0^15*x1 - 1", "x0 - 3"));
        for (int v = 0; v < 3; v++) {
            Tools.due("multiplier(" + v + ")", x.multiplier(v), 0);
            Tools.due("Q_" + v, Tools.quotient(x, v), "0");
        }
        Tools.due("R", Tools.remainder(x), "0");
        Tools.proved(INCONSISTENT, Tools.with(4, 2, "", "x0", "x0 - 1"));
        Tools.proved(OVERFLOW, Tools.with(4, 2, "", "x1 + x0", "x0^15*x1"));
    }

    private static void belowTheDegree() {
        for (int m = 1; m <= 15; m++) {
            // An initial that would make the remainder oversized if it were used.
            WuProver x = Tools.with(4, 2, "x0^15*x1^" + (m - 1), "x0^15*x1^" + m + " - 1");
            Tools.proved(NOT_PROVED, x);
            Tools.due("multiplier(1)", x.multiplier(1), 0);
            Tools.due("Q_1", Tools.quotient(x, 1), "0");
            Tools.due("R", Tools.show(x, 4, 0), Tools.show(x, 1, 0));
            // The same degree makes one round.
            x = Tools.proved(NOT_PROVED, Tools.with(4, 2, "3*x1^" + m, "x0^15*x1^" + m + " - 1"));
            Tools.due("multiplier(1)", x.multiplier(1), 1);
            Tools.due("Q_1", Tools.quotient(x, 1), "3");
            Tools.due("R", Tools.remainder(x), "3");
        }
    }

    private static void chainClasses() {
        WuProver x = Tools.with(4, 6, "x5*x3*x1", "x5^2 - x4", "x3 - x2", "x3 - x1", "x1 - x0");
        Tools.proved(NOT_PROVED, x);
        int[] elements = {-2, 1, 2, 3, -2, 5};
        int[] multipliers = {-1, 2, 1, 1, -1, 0};
        for (int v = 0; v < 6; v++) {
            Tools.due("classOf(2, " + v + ")", x.classOf(WuProver.KIND_CHAIN, v), elements[v]);
            Tools.due("multiplier(" + v + ")", x.multiplier(v), multipliers[v]);
        }
    }
}
