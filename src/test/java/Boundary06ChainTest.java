/** The boundary cases of promise 6, steps 1 and 2: the chain. Each stands under the words that name it. */
public final class Boundary06ChainTest {
    private static final int PROVED = WuProver.STATUS_PROVED;
    private static final int NOT_PROVED = WuProver.STATUS_NOT_PROVED;
    private static final int INCONSISTENT = WuProver.STATUS_INCONSISTENT;
    private static final int OVERFLOW = WuProver.STATUS_OVERFLOW;

    // By x1 + x0^15 the first leaves the constant 1, and the second has x0^16 after its first round.
    private static final String BASE = "x1 + x0^15";
    private static final String TO_CONSTANT = "x1^2 + x0^15*x1 + 1";
    private static final String TO_OVERFLOW = "x0*x1^2";

    public static void main(String[] args) {
        Tools.test("prove() works from scratch every time", Boundary06ChainTest::fromScratch);
        Tools.test("a position holding zero is empty", Boundary06ChainTest::emptyPositions);
        Tools.test("If some position holds a nonzero constant: stop with STATUS_INCONSISTENT.",
                Boundary06ChainTest::constantAtEachPosition);
        Tools.test("If some position holds a nonzero constant: stop with STATUS_INCONSISTENT. -- before all else",
                Boundary06ChainTest::constantComesFirst);
        Tools.test("for v = V-1 down to 0", Boundary06ChainTest::highestClassFirst);
        Tools.test("S has none: T_v stays zero; go on with the next v.", Boundary06ChainTest::noneOfAClass);
        Tools.test("S has one: T_v := its polynomial, the position becomes empty; go on with the next v.",
                Boundary06ChainTest::oneOfAClass);
        Tools.test("b = the position in S of least deg_v", Boundary06ChainTest::leastDegree);
        Tools.test("ties going to the lowest position", Boundary06ChainTest::ties);
        Tools.test("For each other a in S, in increasing position", Boundary06ChainTest::increasingPosition);
        Tools.test("W_a := R of prem(W_a, W_b, v) -- b stays the same for the whole pass",
                Boundary06ChainTest::oneBaseForAPass);
        Tools.test("with R checked after every round -- a remainder oversized in its first round alone",
                Boundary06ChainTest::everyRoundIsChecked);
        Tools.test("(Q is neither needed nor checked)", Boundary06ChainTest::quotientIsNotChecked);
        Tools.test("if oversized: stop with STATUS_OVERFLOW", Boundary06ChainTest::oversized);
        Tools.test("if W_a is zero the position becomes empty", Boundary06ChainTest::zeroLeavesTheClass);
        Tools.test("if W_a is a nonzero constant: stop with STATUS_INCONSISTENT",
                Boundary06ChainTest::constantRemainder);
        Tools.test("Still for that same a, before going on to the next a", Boundary06ChainTest::constantBeforeTheNext);
        Tools.test("After all the other a have been handled, repeat for this same v.",
                Boundary06ChainTest::manyPasses);
        Tools.test("A stop with STATUS_INCONSISTENT or STATUS_OVERFLOW clears the results -- in the chain",
                Boundary06ChainTest::stopClears);
        Tools.end();
    }

    /** A new object modulo 101 with some hypotheses at some positions. */
    private static WuProver at(int vars, int[] positions, String... hypotheses) {
        WuProver x = new WuProver(4, vars);
        for (int i = 0; i < positions.length; i++) {
            Tools.enter(x, positions[i], hypotheses[i]);
        }
        return x;
    }

    private static void fromScratch() {
        for (int status = 1; status <= 4; status++) {
            WuProver x = Tools.inStatus(status);
            String first = Tools.whole(x);
            Tools.due("prove() again", x.prove(), status);
            Tools.due("all is as after the first time", Tools.whole(x), first);
            // By way of each other end, and back.
            Tools.enter(x, 6, "1");
            Tools.proved(INCONSISTENT, x);
            x.clearPoly(6);
            Tools.enter(x, 6, "x2^2*x0^15");
            Tools.enter(x, 7, "x2^2 + x1^15");
            x.prove();
            x.clearPoly(6);
            x.clearPoly(7);
            Tools.due("prove() in the end", x.prove(), status);
            Tools.due("all is as after the first time", Tools.whole(x), first);
        }
    }

    private static void emptyPositions() {
        Tools.proved(PROVED, new WuProver(4, 6));
        // Zero by never having had a term, by cancelling, by a multiple of p and by clearPoly().
        WuProver x = new WuProver(4, 2);
        Tools.enter(x, 1, "x1 + 5");
        Tools.enter(x, 1, "-x1 - 5");
        Tools.enter(x, 2, "101*x1");
        Tools.enter(x, 3, "x1 - 7");
        x.clearPoly(3);
        Tools.enter(x, 7, "x1 - x0");
        Tools.proved(PROVED, x);
        Tools.due("the only hypothesis", Tools.chain(x, 1), "100*x0 + 1*x1");
        Tools.due("chainSize()", x.chainSize(), 1);
    }

    private static void constantAtEachPosition() {
        for (int position = 0; position < 8; position++) {
            Tools.proved(INCONSISTENT, at(2, new int[] {position}, "1"));
            Tools.proved(INCONSISTENT, at(2, new int[] {position}, "100"));
            Tools.proved(INCONSISTENT, at(2, new int[] {position, 7 - position}, "1", "x1 - x0"));
            Tools.proved(PROVED, at(2, new int[] {position}, "101"));
            Tools.proved(PROVED, at(2, new int[] {position}, "0"));
        }
        // In the smallest field, and for the conclusion, which is no hypothesis.
        Tools.proved(INCONSISTENT, Tools.with(0, 1, "", "1"));
        Tools.proved(PROVED, Tools.with(0, 1, "", "2"));
        Tools.proved(NOT_PROVED, Tools.with(4, 2, "1"));
        Tools.proved(NOT_PROVED, Tools.with(4, 2, "100", "x0"));
    }

    private static void constantComesFirst() {
        Tools.proved(OVERFLOW, at(2, new int[] {0, 1}, BASE, TO_OVERFLOW));
        Tools.proved(INCONSISTENT, at(2, new int[] {0, 1, 7}, BASE, TO_OVERFLOW, "1"));
        // A term with the constant beside it is none.
        Tools.proved(PROVED, at(2, new int[] {0}, "x0 + 1"));
    }

    private static void highestClassFirst() {
        Tools.proved(OVERFLOW, at(3, new int[] {0, 1, 2, 3}, "x0", "x0 + 1", "x2 + x1^15", "x1*x2"));
        Tools.proved(INCONSISTENT, at(3, new int[] {0, 1, 2, 3}, "x2", "x2 + 1", "x1 + x0^15", "x0*x1"));
        // In six variables, from x5 down to x0: each class leaves one for the next.
        WuProver x = at(6, new int[] {0, 1, 2, 3, 4, 5, 6},
                "x5 - x4", "x5 - x3", "x4 - x2", "x3 - x1", "x2 - x0", "x1 - x0", "x0^2 - 4");
        Tools.proved(PROVED, x);
        Tools.due("chainSize()", x.chainSize(), 6);
        Tools.due("T_5", Tools.chain(x, 5), "100*x4 + 1*x5");
        Tools.due("T_0", Tools.chain(x, 0), "97 + 1*x0^2");
    }

    private static void noneOfAClass() {
        for (int only = 0; only < 6; only++) {
            WuProver x = Tools.proved(PROVED, at(6, new int[] {3}, "x" + only + " + 1"));
            for (int v = 0; v < 6; v++) {
                Tools.due("T_" + v, Tools.chain(x, v), v == only ? "1 + 1*x" + v : "0");
                Tools.due("multiplier(" + v + ")", x.multiplier(v), v == only ? 0 : -1);
            }
        }
        WuProver x = Tools.proved(PROVED, at(6, new int[] {0, 1}, "x5 + x4 + x3", "x0"));
        Tools.due("the highest and the lowest", x.chainSize(), 2);
    }

    private static void oneOfAClass() {
        for (int position = 0; position < 8; position++) {
            WuProver x = Tools.proved(PROVED, at(3, new int[] {position}, "3*x2^15*x1^15*x0^15 - x2"));
            Tools.due("as it was", Tools.chain(x, 2), "100*x2 + 3*x0^15*x1^15*x2^15");
        }
        // Sixteen terms are not too many, and the position is not used for a lower class again.
        WuProver x = Tools.proved(PROVED, at(2, new int[] {0}, "x1" + Tools.powers(0, 1, 15)));
        Tools.due("sixteen terms", x.termCount(WuProver.KIND_CHAIN, 1), 16);
        Tools.due("chainSize()", x.chainSize(), 1);
        // With one variable alone there is no next v.
        x = Tools.proved(PROVED, at(1, new int[] {7}, "x0^15"));
        Tools.due("chainSize()", x.chainSize(), 1);
    }

    private static void leastDegree() {
        for (int position = 0; position < 8; position++) {
            // Every other position has x1^2, which leaves x0^2; the first of these stays.
            WuProver x = new WuProver(4, 2);
            for (int i = 0; i < 8; i++) {
                Tools.enter(x, i, i == position ? "x1 - x0" : "x1^2");
            }
            Tools.proved(PROVED, x);
            Tools.due("the least degree is at " + position, Tools.chain(x, 1), "100*x0 + 1*x1");
            Tools.due("what the others leave", Tools.chain(x, 0), "1*x0^2");
        }
        // 14 is less than 15. It is the degree in x_v alone that counts, not that in a lower variable.
        WuProver x = Tools.proved(PROVED, at(1, new int[] {0, 1}, "x0^15", "x0^14"));
        Tools.due("14 and 15", Tools.chain(x, 0), "1*x0^14");
        x = Tools.proved(PROVED, at(2, new int[] {0, 1}, "x1^2", "x0^15*x1"));
        Tools.due("x0 is not looked at", Tools.chain(x, 1), "1*x0^15*x1");
        // The greatest degree is the least one where there is no other, at position 0 or not.
        for (int low = 0; low < 7; low++) {
            x = at(2, new int[] {low, low + 1}, "x1^15 - x0", "x1^15 + x0");
            Tools.proved(PROVED, x);
            Tools.due("both have degree 15", Tools.chain(x, 1), "100*x0 + 1*x1^15");
            Tools.due("what the other leaves", Tools.chain(x, 0), "2*x0");
        }
    }

    private static void ties() {
        for (int low = 0; low < 8; low++) {
            for (int high = low + 1; high < 8; high++) {
                WuProver x = Tools.proved(PROVED, at(2, new int[] {low, high}, "x1 - x0", "x1 + x0"));
                Tools.due("the lower of " + low + " and " + high, Tools.chain(x, 1), "100*x0 + 1*x1");
                Tools.due("what the other leaves", Tools.chain(x, 0), "2*x0");
            }
        }
        WuProver x = new WuProver(4, 2);
        for (int i = 0; i < 8; i++) {
            Tools.enter(x, i, "x1 - " + i + "*x0");
        }
        Tools.proved(PROVED, x);
        Tools.due("the lowest of eight", Tools.chain(x, 1), "1*x1");
        Tools.due("the lowest of seven", Tools.chain(x, 0), "100*x0");
        // The least degree goes before the lowest position.
        x = Tools.proved(PROVED, at(2, new int[] {0, 6, 7}, "x1^2", "x1 + 2*x0", "x1 + x0"));
        Tools.due("the lower of the least two", Tools.chain(x, 1), "2*x0 + 1*x1");
    }

    private static void increasingPosition() {
        // Wherever the base stands, the one that comes first of the other two decides.
        int[][] orders = {{0, 1, 2}, {0, 7, 1}, {1, 0, 7}, {3, 4, 5}, {4, 3, 5}, {5, 3, 4}, {6, 0, 1}, {7, 0, 6}};
        for (int[] order : orders) {
            Tools.proved(INCONSISTENT, at(2, order, BASE, order[1] < order[2] ? TO_CONSTANT : TO_OVERFLOW,
                    order[1] < order[2] ? TO_OVERFLOW : TO_CONSTANT));
            Tools.proved(OVERFLOW, at(2, order, BASE, order[1] < order[2] ? TO_OVERFLOW : TO_CONSTANT,
                    order[1] < order[2] ? TO_CONSTANT : TO_OVERFLOW));
        }
    }

    private static void oneBaseForAPass() {
        // By x1^2 - x0 the second leaves x0*x1, of a lower degree, and the third x0*x1 + x0. Then, by x0*x1,
        // they leave -x0^3 and x0^2. Had the third been divided by x0*x1 at once, -x0^3 alone would be left.
        WuProver x = Tools.proved(PROVED, at(2, new int[] {0, 1, 2}, "x1^2 - x0", "x1^3", "x1^3 + x1^2"));
        Tools.due("T_1", Tools.chain(x, 1), "1*x0*x1");
        Tools.due("T_0", Tools.chain(x, 0), "1*x0^2");
    }

    private static void everyRoundIsChecked() {
        // x0*x1 goes into x1*(x1 + x0^e); on the way, x0^(e+1)*x1 is left.
        WuProver x = Tools.proved(PROVED, at(2, new int[] {0, 1}, "x0*x1", "x1^2 + x0^14*x1"));
        Tools.due("chainSize()", x.chainSize(), 1);
        Tools.proved(OVERFLOW, at(2, new int[] {0, 1}, "x0*x1", "x1^2 + x0^15*x1"));
        // Modulo 2, x1 + x0 + 1 goes into this; on the way, n + 2 terms are left.
        for (int n = 14; n <= 15; n++) {
            String dividend = "x1^2 + 1 + x0^" + n;
            for (int e = 2; e < n; e++) {
                dividend += " + x0^" + e + "*x1";
            }
            x = Tools.proved(n == 14 ? PROVED : OVERFLOW, Tools.with(0, 2, "", "x1 + x0 + 1", dividend));
            Tools.due("chainSize()", x.chainSize(), n == 14 ? 1 : 0);
        }
    }

    private static void quotientIsNotChecked() {
        // The quotient would be x0^16*x1.
        WuProver x = Tools.proved(PROVED, at(2, new int[] {0, 1}, "x0*x1", "x0^15*x1^2"));
        Tools.due("T_1", Tools.chain(x, 1), "1*x0*x1");
        Tools.due("chainSize()", x.chainSize(), 1);
        // The quotient would have 2 * 9 terms.
        x = Tools.proved(PROVED, at(3, new int[] {0, 1}, "x1*x2 + x2", nine() + "*x2^2"));
        Tools.due("T_2", Tools.chain(x, 2), "1*x2 + 1*x1*x2");
        Tools.due("chainSize()", x.chainSize(), 1);
        // The same divisions of a conclusion do have the quotient checked.
        Tools.proved(OVERFLOW, Tools.with(4, 2, "x0^15*x1^2", "x0*x1"));
        Tools.proved(OVERFLOW, Tools.with(4, 3, nine() + "*x2^2", "x1*x2 + x2"));
    }

    /** x0^0 + .. + x0^8, each but the last times x2^2, so that "*x2^2" makes the factor whole. */
    private static String nine() {
        StringBuilder text = new StringBuilder();
        for (int e = 0; e < 8; e++) {
            text.append("x0^").append(e).append("*x2^2 + ");
        }
        return text.append("x0^8").toString();
    }

    private static void oversized() {
        // Exponents: x0^15 is left, then x0^16.
        WuProver x = Tools.proved(PROVED, at(2, new int[] {0, 1}, "x1 + x0", "x0^14*x1"));
        Tools.due("T_0", Tools.chain(x, 0), "100*x0^15");
        Tools.proved(OVERFLOW, at(2, new int[] {0, 1}, "x1 + x0", "x0^15*x1"));
        // Terms: sixteen are left, then seventeen.
        x = Tools.proved(PROVED, at(3, new int[] {0, 1}, "x2 + 1", "x2" + Tools.powers(0, 1, 15)));
        Tools.due("sixteen terms", x.termCount(WuProver.KIND_CHAIN, 0), 16);
        Tools.proved(OVERFLOW, at(3, new int[] {0, 1}, "x2 + x1 + 1", "x2" + Tools.powers(0, 1, 15)));
        // At the last of eight positions.
        Tools.proved(OVERFLOW, at(2, new int[] {6, 7}, "x1 + x0", "x0^15*x1"));
    }

    private static void zeroLeavesTheClass() {
        WuProver x = new WuProver(4, 2);
        for (int i = 0; i < 8; i++) {
            Tools.enter(x, i, (i + 1) + "*x1 - " + (i + 1) + "*x0");
        }
        Tools.proved(PROVED, x);
        Tools.due("eight multiples of one: the first stays", Tools.chain(x, 1), "100*x0 + 1*x1");
        Tools.due("nothing else does", x.chainSize(), 1);
        // In the lowest class, where a remainder is a constant or zero.
        x = Tools.proved(PROVED, at(1, new int[] {0, 1}, "x0 - 1", "x0^15 - 1"));
        Tools.due("T_0", Tools.chain(x, 0), "100 + 1*x0");
    }

    private static void constantRemainder() {
        for (int low = 0; low < 7; low++) {
            Tools.proved(INCONSISTENT, at(1, new int[] {low, low + 1}, "x0", "x0 + 1"));
            Tools.proved(INCONSISTENT, at(6, new int[] {low, 7}, "x5^2 - x4", "x5^2 - x4 + 100"));
            Tools.proved(INCONSISTENT, at(3, new int[] {low, low + 1}, "x1", "x1^15 - 1"));
        }
        // The first pass leaves 1 - x0, the second a constant.
        Tools.proved(INCONSISTENT, at(1, new int[] {0, 1}, "x0^2 + 1", "x0^3 + 1"));
        // The constant is a multiple of p, which is zero.
        Tools.proved(PROVED, at(1, new int[] {0, 1}, "x0 - 1", "x0 - 102"));
    }

    private static void constantBeforeTheNext() {
        Tools.proved(INCONSISTENT, at(2, new int[] {0, 1, 2}, BASE, TO_CONSTANT, TO_OVERFLOW));
        Tools.proved(OVERFLOW, at(2, new int[] {0, 1, 2}, BASE, TO_OVERFLOW, TO_CONSTANT));
        // An overflow that comes only in the next pass is too late as well.
        Tools.proved(OVERFLOW, at(2, new int[] {0, 1}, "x1^2", "x1^2 + x1 + x0^15"));
        Tools.proved(INCONSISTENT, at(2, new int[] {0, 1, 2}, "x1^2", "x1^2 + x1 + x0^15", "x1^2 + 1"));
    }

    private static void manyPasses() {
        // x0*F_14 and x0*F_13, where F_n = x0*F_(n-1) + F_(n-2): each pass lowers one degree by two, and there
        // are fourteen of them until x0 alone is left.
        WuProver x = Tools.proved(PROVED, at(1, new int[] {0, 1}, timesX(fibonacci(14)), timesX(fibonacci(13))));
        Tools.due("T_0", Tools.chain(x, 0), "1*x0");
        x = Tools.proved(PROVED, at(1, new int[] {7, 2}, timesX(fibonacci(14)), timesX(fibonacci(13))));
        Tools.due("T_0 at other positions", Tools.chain(x, 0), "1*x0");
        Tools.proved(INCONSISTENT, at(1, new int[] {0, 1}, text(fibonacci(15)), text(fibonacci(14))));
        // All passes of a class come before the next class.
        Tools.proved(INCONSISTENT, at(3, new int[] {0, 1, 2, 3}, "x2^2 + 1", "x2^3 + 1", BASE, TO_OVERFLOW));
    }

    private static int[] fibonacci(int n) {
        int[] before = {1};
        int[] last = {0, 1};
        for (int i = 2; i <= n; i++) {
            int[] next = new int[i + 1];
            for (int e = 0; e < i; e++) {
                next[e + 1] += last[e];
            }
            for (int e = 0; e < i - 1; e++) {
                next[e] += before[e];
            }
            before = last;
            last = next;
        }
        return last;
    }

    private static String text(int[] coefs) {
        StringBuilder text = new StringBuilder("0");
        for (int e = 0; e < coefs.length; e++) {
            text.append(" + ").append(coefs[e]).append("*x0^").append(e);
        }
        return text.toString();
    }

    private static String timesX(int[] coefs) {
        int[] product = new int[coefs.length + 1];
        System.arraycopy(coefs, 0, product, 1, coefs.length);
        return text(product);
    }

    private static void stopClears() {
        // T_2 stands already when the stop comes in class 1, and the object had results before.
        for (int want = INCONSISTENT; want <= OVERFLOW; want++) {
            WuProver x = Tools.with(4, 3, "x2", "x2 - x1", BASE);
            Tools.proved(NOT_PROVED, x);
            Tools.due("chainSize()", x.chainSize(), 2);
            Tools.enter(x, 7, want == INCONSISTENT ? TO_CONSTANT : TO_OVERFLOW);
            Tools.proved(want, x);
            Tools.due("chainSize()", x.chainSize(), 0);
            Tools.due("check()", x.check(), WuProver.CHECK_NONE);
        }
    }
}
