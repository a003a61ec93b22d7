/** The boundary cases of promise 5, each under the words that name it. */
public final class Boundary05ClearPolyTest {
    public static void main(String[] args) {
        Tools.test("clearPoly(target) uses target 0..8 as in addTerm.", Boundary05ClearPolyTest::targets);
        Tools.test("For target outside 0..8 it answers -1 and changes nothing.", Boundary05ClearPolyTest::outside);
        Tools.test("Otherwise that input polynomial becomes zero", Boundary05ClearPolyTest::fullBecomesZero);
        Tools.test("(also when it already was zero)", Boundary05ClearPolyTest::zeroStaysZero);
        Tools.test("the results are cleared", Boundary05ClearPolyTest::resultsAreCleared);
        Tools.test("it answers 0", Boundary05ClearPolyTest::answersZero);
        Tools.test("No other input polynomial changes.", Boundary05ClearPolyTest::othersStay);
        Tools.end();
    }

    /** Sixteen terms in each of the nine inputs. */
    private static WuProver full() {
        WuProver x = new WuProver(4, 2);
        for (int target = 0; target <= 8; target++) {
            for (int code = 0; code < 16; code++) {
                x.addTerm(target, target + 1, 16 * code + target);
            }
        }
        return x;
    }

    private static void targets() {
        for (int target = 0; target <= 8; target++) {
            WuProver x = full();
            Tools.due("clearPoly(" + target + ")", x.clearPoly(target), 0);
            for (int i = 0; i <= 8; i++) {
                int count = x.termCount(i == 8 ? 1 : 0, i % 8);
                Tools.due("the terms of input " + i, count, i == target ? 0 : 16);
            }
        }
    }

    private static void outside() {
        for (int status = 0; status <= 4; status++) {
            WuProver x = Tools.inStatus(status);
            int[] targets = {-1, -2, -9, Integer.MIN_VALUE, 9, 10, 16, 34, 256, Integer.MAX_VALUE};
            for (int target : targets) {
                Tools.kept("clearPoly(" + target + ")", x, () -> x.clearPoly(target), -1);
            }
        }
    }

    private static void fullBecomesZero() {
        for (int target = 0; target <= 8; target++) {
            WuProver x = full();
            x.clearPoly(target);
            int kind = target == 8 ? WuProver.KIND_CONCLUSION : WuProver.KIND_HYPOTHESIS;
            Tools.due("the polynomial", Tools.show(x, kind, target % 8), "0");
            Tools.due("its class", x.classOf(kind, target % 8), -2);
            Tools.due("its first term", x.termCode(kind, target % 8, 0), -1);
            for (int code = 0; code < 16; code++) {
                Tools.due("it can be filled again", x.addTerm(target, 1, 17 * code), code + 1);
            }
            Tools.due("up to sixteen terms", x.addTerm(target, 1, 1), -1);
        }
    }

    private static void zeroStaysZero() {
        for (int status = 0; status <= 4; status++) {
            WuProver x = Tools.inStatus(status);
            String before = Tools.inputs(x);
            Tools.due("clearPoly(6)", x.clearPoly(6), 0);
            Tools.due("the inputs", Tools.inputs(x), before);
            Tools.due("the results", Tools.results(x), Tools.clearedResults(3, WuProver.STATUS_IDLE));
        }
        WuProver fresh = new WuProver(0, 1);
        for (int target : new int[] {0, 1, 2, 3, 4, 5, 6, 7, 8}) {
            Tools.kept("clearPoly(" + target + ") on a fresh object", fresh, () -> fresh.clearPoly(target), 0);
        }
    }

    private static void resultsAreCleared() {
        for (int status = 0; status <= 4; status++) {
            for (int target = 0; target <= 8; target++) {
                WuProver x = Tools.inStatus(status);
                x.clearPoly(target);
                Tools.due("the results", Tools.results(x), Tools.clearedResults(3, WuProver.STATUS_IDLE));
                Tools.due("check()", x.check(), WuProver.CHECK_NONE);
            }
        }
    }

    private static void answersZero() {
        WuProver x = full();
        for (int target = 8; target >= 0; target--) {
            Tools.due("a full one", x.clearPoly(target), 0);
            Tools.due("an empty one", x.clearPoly(target), 0);
        }
    }

    private static void othersStay() {
        for (int target = 0; target <= 8; target++) {
            WuProver x = full();
            WuProver y = full();
            x.clearPoly(target);
            for (int code = 0; code < 16; code++) {
                x.addTerm(target, target + 1, 16 * code + target);
            }
            Tools.due("cleared and filled again, all is as before", Tools.inputs(x), Tools.inputs(y));
        }
    }
}
