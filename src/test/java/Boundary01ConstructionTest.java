/** The boundary cases of promise 1, each under the words that name it. */
public final class Boundary01ConstructionTest {
    private static final int LEAST = Integer.MIN_VALUE;
    private static final int GREATEST = Integer.MAX_VALUE;

    public static void main(String[] args) {
        Tools.test("new WuProver(primeIndex, varCount) accepts any int values", Boundary01ConstructionTest::anyValues);
        Tools.test("any value below 0 becomes 0", Boundary01ConstructionTest::indexTooSmall);
        Tools.test("any value above 7 becomes 7", Boundary01ConstructionTest::indexTooLarge);
        Tools.test("The clamped index selects p from the list 2, 3, 5, 7, 101, 1009, 10007, 32749",
                Boundary01ConstructionTest::indexInside);
        Tools.test("any value below 1 becomes 1", Boundary01ConstructionTest::countTooSmall);
        Tools.test("any value above 6 becomes 6", Boundary01ConstructionTest::countTooLarge);
        Tools.test("the clamped value is V", Boundary01ConstructionTest::countInside);
        Tools.test("p and V never change afterwards", Boundary01ConstructionTest::neverChange);
        Tools.test("every input polynomial H_0..H_7 and G zero", Boundary01ConstructionTest::inputsAreZero);
        Tools.test("every T_v, Q_v and R zero", Boundary01ConstructionTest::resultsAreZero);
        Tools.test("every multiplier k_v equal to -1", Boundary01ConstructionTest::multipliersAreUnset);
        Tools.test("So status() answers STATUS_IDLE", Boundary01ConstructionTest::statusIsIdle);
        Tools.test("chainSize() answers 0", Boundary01ConstructionTest::chainIsEmpty);
        Tools.test("check() answers CHECK_NONE", Boundary01ConstructionTest::nothingToCheck);
        Tools.test("every valid selection has term count 0 and class -2",
                Boundary01ConstructionTest::selectionsAreZero);
        Tools.end();
    }

    private static void made(int primeIndex, int varCount, int prime, int vars) {
        WuProver x = new WuProver(primeIndex, varCount);
        String call = "new WuProver(" + primeIndex + ", " + varCount + ")";
        Tools.due(call + " prime()", x.prime(), prime);
        Tools.due(call + " varCount()", x.varCount(), vars);
        // The clamped values are those that the object works with, not only those that it tells.
        int end = 1 << (4 * vars);
        Tools.due(call + " p - 1 is a coefficient", x.addTerm(8, prime - 1, end - 1), 1);
        Tools.due(call + " the greatest one", x.termCoef(WuProver.KIND_CONCLUSION, 0, 0), prime - 1);
        Tools.due(call + " p is none", x.addTerm(7, prime, 0), 0);
        Tools.due(call + " 16^V is no code", x.addTerm(8, 1, end), -1);
        Tools.due(call + " the last variable", x.classOf(WuProver.KIND_CONCLUSION, 0), vars - 1);
        Tools.due(call + " the last chain element", x.termCount(WuProver.KIND_CHAIN, vars - 1), 0);
        Tools.due(call + " no further one", x.termCount(WuProver.KIND_CHAIN, vars), -1);
    }

    private static void anyValues() {
        int[] values = {LEAST, LEAST + 1, -65536, -256, -8, 0, 8, 255, 256, 65536, GREATEST - 1, GREATEST};
        for (int primeIndex : values) {
            for (int varCount : values) {
                made(primeIndex, varCount, primeIndex <= 0 ? 2 : 32749, varCount <= 0 ? 1 : 6);
            }
        }
    }

    private static void indexTooSmall() {
        for (int primeIndex : new int[] {-1, -2, -7, -8, -100, LEAST + 1, LEAST}) {
            made(primeIndex, 2, 2, 2);
        }
    }

    private static void indexTooLarge() {
        for (int primeIndex : new int[] {8, 9, 15, 16, 101, 32749, GREATEST - 1, GREATEST}) {
            made(primeIndex, 2, 32749, 2);
        }
    }

    private static void indexInside() {
        made(0, 3, 2, 3);
        made(1, 3, 3, 3);
        made(2, 3, 5, 3);
        made(3, 3, 7, 3);
        made(4, 3, 101, 3);
        made(5, 3, 1009, 3);
        made(6, 3, 10007, 3);
        made(7, 3, 32749, 3);
    }

    private static void countTooSmall() {
        for (int varCount : new int[] {0, -1, -2, -6, -7, -100, LEAST + 1, LEAST}) {
            made(3, varCount, 7, 1);
        }
    }

    private static void countTooLarge() {
        for (int varCount : new int[] {7, 8, 16, 32, 1000, GREATEST - 1, GREATEST}) {
            made(3, varCount, 7, 6);
        }
    }

    private static void countInside() {
        for (int varCount = 1; varCount <= 6; varCount++) {
            made(3, varCount, 7, varCount);
        }
    }

    private static void neverChange() {
        for (int status = 0; status <= 4; status++) {
            WuProver x = Tools.inStatus(status);
            Tools.due("check()", x.check() >= 0 ? 1 : 0, 1);
            Tools.due("prime() in status " + status, x.prime(), 101);
            Tools.due("varCount() in status " + status, x.varCount(), 3);
            x.addTerm(0, 5, 4095);
            x.clearPoly(8);
            new WuProver(0, 6).prove();
            Tools.due("prime() after changes", x.prime(), 101);
            Tools.due("varCount() after changes", x.varCount(), 3);
        }
    }

    private static void inputsAreZero() {
        for (int vars = 1; vars <= 6; vars++) {
            Tools.due("inputs with V = " + vars, Tools.inputs(new WuProver(0, vars)), "(class-2)".repeat(9));
        }
    }

    private static void resultsAreZero() {
        for (int vars = 1; vars <= 6; vars++) {
            WuProver x = new WuProver(7, vars);
            for (int v = 0; v < vars; v++) {
                Tools.due("T_" + v, Tools.chain(x, v), "0");
                Tools.due("Q_" + v, Tools.quotient(x, v), "0");
            }
            Tools.due("R", Tools.remainder(x), "0");
        }
    }

    private static void multipliersAreUnset() {
        for (int vars = 1; vars <= 6; vars++) {
            WuProver x = new WuProver(7, vars);
            for (int v = 0; v < vars; v++) {
                Tools.due("multiplier(" + v + ") with V = " + vars, x.multiplier(v), -1);
            }
        }
    }

    private static void statusIsIdle() {
        for (int index = -1; index <= 8; index++) {
            Tools.due("status()", new WuProver(index, index).status(), WuProver.STATUS_IDLE);
        }
    }

    private static void chainIsEmpty() {
        for (int index = -1; index <= 8; index++) {
            Tools.due("chainSize()", new WuProver(index, index).chainSize(), 0);
        }
    }

    private static void nothingToCheck() {
        for (int index = -1; index <= 8; index++) {
            Tools.due("check()", new WuProver(index, index).check(), WuProver.CHECK_NONE);
        }
    }

    private static void selectionsAreZero() {
        for (int vars = 1; vars <= 6; vars++) {
            WuProver x = new WuProver(5, vars);
            int[] lengths = {8, 1, vars, vars, 1};
            for (int kind = 0; kind <= 4; kind++) {
                for (int index = 0; index < lengths[kind]; index++) {
                    Tools.due("termCount(" + kind + ", " + index + ")", x.termCount(kind, index), 0);
                    Tools.due("classOf(" + kind + ", " + index + ")", x.classOf(kind, index), -2);
                }
            }
        }
    }
}
