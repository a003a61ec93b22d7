/** The boundary cases of promise 10, each under the words that name it. */
public final class Boundary10ClassOfTest {
    private static final int LEAST = Integer.MIN_VALUE;
    private static final int GREATEST = Integer.MAX_VALUE;

    public static void main(String[] args) {
        Tools.test("For an invalid selection it answers -3. -- kind", Boundary10ClassOfTest::otherKinds);
        Tools.test("For an invalid selection it answers -3. -- index", Boundary10ClassOfTest::otherIndices);
        Tools.test("-2 if it is zero", Boundary10ClassOfTest::zero);
        Tools.test("-1 if it is a nonzero constant", Boundary10ClassOfTest::constants);
        Tools.test("else the greatest v with deg_v >= 1", Boundary10ClassOfTest::greatestVariable);
        Tools.test("It changes nothing.", Boundary10ClassOfTest::changesNothing);
        Tools.end();
    }

    private static void selected(WuProver x, int kind, int index, int want) {
        String call = "classOf(" + kind + ", " + index + ") with V = " + x.varCount();
        Tools.due(call, x.classOf(kind, index), want);
    }

    private static void otherKinds() {
        for (int status = 0; status <= 4; status++) {
            WuProver x = Tools.inStatus(status);
            for (int kind : new int[] {-1, -2, -3, LEAST, 5, 6, 8, 256, GREATEST}) {
                for (int index : new int[] {LEAST, -1, 0, 1, 2, 7, GREATEST}) {
                    selected(x, kind, index, -3);
                }
            }
        }
    }

    private static void otherIndices() {
        for (int vars = 1; vars <= 6; vars++) {
            WuProver x = new WuProver(4, vars);
            Tools.enter(x, 0, "x" + (vars - 1));
            Tools.enter(x, 8, "x" + (vars - 1) + " + 1");
            Tools.due("prove()", x.prove(), WuProver.STATUS_NOT_PROVED);
            int[] lengths = {8, 1, vars, vars, 1};
            for (int kind = 0; kind <= 4; kind++) {
                for (int index : new int[] {LEAST, -2, -1, lengths[kind], lengths[kind] + 1, 16, 34, GREATEST}) {
                    selected(x, kind, index, -3);
                }
            }
            // The last valid index of each kind.
            selected(x, WuProver.KIND_HYPOTHESIS, 7, -2);
            selected(x, WuProver.KIND_CONCLUSION, 0, vars - 1);
            selected(x, WuProver.KIND_CHAIN, vars - 1, vars - 1);
            selected(x, WuProver.KIND_QUOTIENT, vars - 1, -1);
            selected(x, WuProver.KIND_REMAINDER, 0, -1);
        }
    }

    private static void zero() {
        WuProver x = Tools.inStatus(1);
        selected(x, WuProver.KIND_HYPOTHESIS, 7, -2);
        selected(x, WuProver.KIND_CHAIN, 0, -2);
        selected(x, WuProver.KIND_QUOTIENT, 0, -2);
        selected(x, WuProver.KIND_REMAINDER, 0, -2);
        // Zero after it was something else: cleared results, cancelled terms, clearPoly().
        Tools.enter(x, 0, "x1 - x2");
        selected(x, WuProver.KIND_HYPOTHESIS, 0, -2);
        selected(x, WuProver.KIND_CHAIN, 2, -2);
        selected(x, WuProver.KIND_QUOTIENT, 2, -2);
        x.clearPoly(8);
        selected(x, WuProver.KIND_CONCLUSION, 0, -2);
    }

    private static void constants() {
        for (int index = 0; index < 8; index++) {
            WuProver x = new WuProver(index, 1 + index % 6);
            x.addTerm(0, 1, 0);
            x.addTerm(8, -1, 0);
            selected(x, WuProver.KIND_HYPOTHESIS, 0, -1);
            selected(x, WuProver.KIND_CONCLUSION, 0, -1);
            x.addTerm(0, -1, 0);
            selected(x, WuProver.KIND_HYPOTHESIS, 0, -2);
            x.prove();
            selected(x, WuProver.KIND_REMAINDER, 0, -1);
        }
    }

    private static void greatestVariable() {
        for (int v = 0; v < 6; v++) {
            WuProver x = new WuProver(4, 6);
            // The least exponent of x_v beside the greatest ones of all below it.
            Tools.due("x_v", x.addTerm(3, 1, 1 << (4 * v)), 1);
            selected(x, WuProver.KIND_HYPOTHESIS, 3, v);
            Tools.due("all below", x.addTerm(3, 1, (1 << (4 * v)) - 1), 2);
            selected(x, WuProver.KIND_HYPOTHESIS, 3, v);
            x.addTerm(3, -1, 1 << (4 * v));
            selected(x, WuProver.KIND_HYPOTHESIS, 3, v - 1);
            // The greatest exponent, and one product with all others.
            x.addTerm(4, 1, 15 << (4 * v));
            selected(x, WuProver.KIND_HYPOTHESIS, 4, v);
            x.addTerm(5, 1, (16 << (4 * v)) - 1);
            selected(x, WuProver.KIND_HYPOTHESIS, 5, v);
        }
    }

    private static void changesNothing() {
        for (int status = 0; status <= 4; status++) {
            WuProver x = Tools.inStatus(status);
            Tools.kept("a hypothesis", x, () -> x.classOf(0, 0), 2);
            Tools.kept("a zero one", x, () -> x.classOf(0, 7), -2);
            Tools.kept("an invalid kind", x, () -> x.classOf(5, 0), -3);
            Tools.kept("an invalid index", x, () -> x.classOf(3, 3), -3);
        }
    }
}
