/** The boundary cases of promise 9, each under the words that name it. */
public final class Boundary09TermsTest {
    private static final int LEAST = Integer.MIN_VALUE;
    private static final int GREATEST = Integer.MAX_VALUE;

    public static void main(String[] args) {
        Tools.test("look at its j-th term, 0-based, in increasing order of code", Boundary09TermsTest::order);
        Tools.test("For an invalid selection, or j outside 0..count-1 -- an invalid selection",
                Boundary09TermsTest::invalidSelections);
        Tools.test("For an invalid selection, or j outside 0..count-1 -- j is count or more",
                Boundary09TermsTest::tooLarge);
        Tools.test("including any negative j", Boundary09TermsTest::negative);
        Tools.test("and any j for a zero polynomial", Boundary09TermsTest::zeroPolynomials);
        Tools.test("Otherwise termCode answers the code of that term", Boundary09TermsTest::codes);
        Tools.test("termCoef answers its coefficient, which lies in 1..p-1", Boundary09TermsTest::coefficients);
        Tools.test("Neither changes anything.", Boundary09TermsTest::changesNothing);
        Tools.end();
    }

    private static void term(WuProver x, int kind, int index, int j, int code, int coef) {
        String call = "(" + kind + ", " + index + ", " + j + ")";
        Tools.due("termCode" + call, x.termCode(kind, index, j), code);
        Tools.due("termCoef" + call, x.termCoef(kind, index, j), coef);
    }

    private static void order() {
        // Entered upwards, downwards and from the middle, sixteen terms stand in the same order.
        int[][] entries = new int[3][16];
        for (int i = 0; i < 16; i++) {
            entries[0][i] = i;
            entries[1][i] = 15 - i;
            entries[2][i] = i * 7 % 16;
        }
        for (int[] entry : entries) {
            WuProver x = new WuProver(4, 6);
            for (int i : entry) {
                x.addTerm(5, i + 1, i * 0x111111);
            }
            for (int j = 0; j < 16; j++) {
                term(x, WuProver.KIND_HYPOTHESIS, 5, j, j * 0x111111, j + 1);
            }
        }
        // The results too: R is -1 * (x0^15 + .. + 1), Q is 1.
        WuProver x = Tools.with(4, 2, "x1", "x1" + Tools.powers(0, 0, 14));
        x.prove();
        for (int j = 0; j < 15; j++) {
            term(x, WuProver.KIND_REMAINDER, 0, j, j, 100);
            term(x, WuProver.KIND_CHAIN, 1, j, j, 1);
        }
        term(x, WuProver.KIND_CHAIN, 1, 15, 16, 1);
        term(x, WuProver.KIND_QUOTIENT, 1, 0, 0, 1);
    }

    private static void invalidSelections() {
        WuProver x = Tools.inStatus(2);
        int[][] selections = {{-1, 0}, {5, 0}, {LEAST, 0}, {GREATEST, 0}, {0, -1}, {0, 8}, {0, LEAST}, {0, GREATEST},
            {1, -1}, {1, 1}, {1, 8}, {2, -1}, {2, 3}, {2, 6}, {3, -1}, {3, 3}, {3, 6}, {4, -1}, {4, 1}, {4, GREATEST}};
        for (int[] selection : selections) {
            for (int j : new int[] {LEAST, -1, 0, 1, 15, 16, GREATEST}) {
                term(x, selection[0], selection[1], j, -1, -1);
            }
        }
        // An index that is invalid with one V is valid with another.
        for (int vars = 1; vars <= 6; vars++) {
            WuProver y = new WuProver(4, vars);
            Tools.enter(y, 0, "x" + (vars - 1));
            y.prove();
            term(y, WuProver.KIND_CHAIN, vars - 1, 0, 1 << (4 * (vars - 1)), 1);
            term(y, WuProver.KIND_CHAIN, vars, 0, -1, -1);
            term(y, WuProver.KIND_QUOTIENT, vars, 0, -1, -1);
        }
    }

    private static void tooLarge() {
        for (int count = 1; count <= 16; count++) {
            WuProver x = new WuProver(4, 2);
            for (int i = 0; i < count; i++) {
                x.addTerm(0, 1, i + 1);
                x.addTerm(1, 1, i + 1);
                x.addTerm(8, 1, i + 1);
            }
            for (int kind = 0; kind <= 1; kind++) {
                term(x, kind, 0, count - 1, count, 1);
                for (int j : new int[] {count, count + 1, 16, 17, 32, 1 << 28, GREATEST - 1, GREATEST}) {
                    term(x, kind, 0, j, -1, -1);
                }
            }
        }
        // The results too.
        WuProver x = Tools.inStatus(2);
        term(x, WuProver.KIND_CHAIN, 2, 2, -1, -1);
        term(x, WuProver.KIND_CHAIN, 2, 16, -1, -1);
        term(x, WuProver.KIND_QUOTIENT, 2, 1, -1, -1);
        term(x, WuProver.KIND_REMAINDER, 0, 1, -1, -1);
        term(x, WuProver.KIND_REMAINDER, 0, GREATEST, -1, -1);
    }

    private static void negative() {
        WuProver x = Tools.inStatus(2);
        int[][] selections = {{0, 0}, {0, 1}, {0, 7}, {1, 0}, {2, 0}, {2, 1}, {2, 2}, {3, 1}, {3, 2}, {4, 0}};
        for (int[] selection : selections) {
            for (int j : new int[] {-1, -2, -15, -16, -17, -256, LEAST + 1, LEAST}) {
                term(x, selection[0], selection[1], j, -1, -1);
            }
        }
    }

    private static void zeroPolynomials() {
        // Zero from the start, by cancelling, by clearPoly(), by clearing the results and by prove().
        WuProver x = Tools.inStatus(1);
        noTerms(x, WuProver.KIND_HYPOTHESIS, 7);
        noTerms(x, WuProver.KIND_CHAIN, 0);
        noTerms(x, WuProver.KIND_QUOTIENT, 0);
        noTerms(x, WuProver.KIND_REMAINDER, 0);
        Tools.enter(x, 1, "1 - x0*x1");
        noTerms(x, WuProver.KIND_HYPOTHESIS, 1);
        noTerms(x, WuProver.KIND_CHAIN, 2);
        noTerms(x, WuProver.KIND_QUOTIENT, 2);
        x.clearPoly(0);
        noTerms(x, WuProver.KIND_HYPOTHESIS, 0);
        x.clearPoly(8);
        noTerms(x, WuProver.KIND_CONCLUSION, 0);
    }

    private static void noTerms(WuProver x, int kind, int index) {
        for (int j : new int[] {LEAST, -1, 0, 1, 2, 15, 16, GREATEST}) {
            term(x, kind, index, j, -1, -1);
        }
    }

    private static void codes() {
        for (int vars = 1; vars <= 6; vars++) {
            int greatest = (1 << (4 * vars)) - 1;
            WuProver x = new WuProver(4, vars);
            x.addTerm(8, 2, greatest);
            x.addTerm(8, 3, 0);
            x.addTerm(8, 4, 1);
            Tools.due("the least code", x.termCode(WuProver.KIND_CONCLUSION, 0, 0), 0);
            Tools.due("the second one", x.termCode(WuProver.KIND_CONCLUSION, 0, 1), 1);
            Tools.due("the greatest one", x.termCode(WuProver.KIND_CONCLUSION, 0, 2), greatest);
            x.prove();
            Tools.due("the least one of R", x.termCode(WuProver.KIND_REMAINDER, 0, 0), 0);
            Tools.due("the greatest one of R", x.termCode(WuProver.KIND_REMAINDER, 0, 2), greatest);
        }
    }

    private static void coefficients() {
        for (int index = 0; index < 8; index++) {
            int p = Tools.PRIMES[index];
            WuProver x = new WuProver(index, 2);
            x.addTerm(0, 1, 16);
            x.addTerm(0, p - 1, 1);
            x.addTerm(8, -1, 16);
            Tools.due("the least", x.termCoef(WuProver.KIND_HYPOTHESIS, 0, 1), 1);
            Tools.due("the greatest", x.termCoef(WuProver.KIND_HYPOTHESIS, 0, 0), p - 1);
            x.prove();
            Tools.due("the greatest of Q", x.termCoef(WuProver.KIND_QUOTIENT, 1, 0), p - 1);
            Tools.due("the greatest of R", x.termCoef(WuProver.KIND_REMAINDER, 0, 0), p - 1);
            Tools.due("the greatest of T", x.termCoef(WuProver.KIND_CHAIN, 1, 0), p - 1);
        }
    }

    private static void changesNothing() {
        for (int status = 0; status <= 4; status++) {
            WuProver x = Tools.inStatus(status);
            Tools.kept("termCode()", x, () -> x.termCode(0, 0, 1), 256);
            Tools.kept("termCoef()", x, () -> x.termCoef(0, 0, 0), 100);
            Tools.kept("termCode() of no selection", x, () -> x.termCode(9, 9, 9), -1);
            Tools.kept("termCoef() of no term", x, () -> x.termCoef(0, 0, 2), -1);
        }
    }
}
