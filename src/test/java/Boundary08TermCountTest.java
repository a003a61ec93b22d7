/** The boundary cases of promise 8, each under the words that name it. */
public final class Boundary08TermCountTest {
    private static final int LEAST = Integer.MIN_VALUE;
    private static final int GREATEST = Integer.MAX_VALUE;

    public static void main(String[] args) {
        Tools.test("KIND_HYPOTHESIS with index 0..7: H_index (for any V)", Boundary08TermCountTest::hypotheses);
        Tools.test("KIND_CONCLUSION with index 0: G", Boundary08TermCountTest::conclusion);
        Tools.test("KIND_CHAIN with index 0..V-1: T_index", Boundary08TermCountTest::chain);
        Tools.test("KIND_QUOTIENT with index 0..V-1: Q_index", Boundary08TermCountTest::quotients);
        Tools.test("KIND_REMAINDER with index 0: R", Boundary08TermCountTest::remainder);
        Tools.test("Any other kind or index is an invalid selection and answers -1. -- kind",
                Boundary08TermCountTest::otherKinds);
        Tools.test("Any other kind or index is an invalid selection and answers -1. -- index",
                Boundary08TermCountTest::otherIndices);
        Tools.test("the number of terms of the selected polynomial (0 for zero)", Boundary08TermCountTest::counts);
        Tools.test("It changes nothing.", Boundary08TermCountTest::changesNothing);
        Tools.end();
    }

    /** V variables, each with a chain element x_v - 1 and its quotient; H_6, H_7 and G have 2, 3 and V terms. */
    private static WuProver filled(int vars) {
        WuProver x = new WuProver(4, vars);
        for (int v = 0; v < vars; v++) {
            Tools.enter(x, v, "x" + v + " - 1");
            Tools.enter(x, 8, "x" + v + "^3");
        }
        Tools.enter(x, 6, "x0^2 - 1");
        Tools.enter(x, 7, "x0^3 + x0 - 2");
        Tools.due("prove()", x.prove(), WuProver.STATUS_NOT_PROVED);
        return x;
    }

    private static void selected(WuProver x, int kind, int index, int want) {
        String call = "termCount(" + kind + ", " + index + ") with V = " + x.varCount();
        Tools.due(call, x.termCount(kind, index), want);
    }

    private static void hypotheses() {
        for (int vars = 1; vars <= 6; vars++) {
            WuProver x = filled(vars);
            for (int index = 0; index < 6; index++) {
                selected(x, WuProver.KIND_HYPOTHESIS, index, index < vars ? 2 : 0);
            }
            selected(x, WuProver.KIND_HYPOTHESIS, 6, 2);
            selected(x, WuProver.KIND_HYPOTHESIS, 7, 3);
            selected(x, WuProver.KIND_HYPOTHESIS, 8, -1);
            selected(x, WuProver.KIND_HYPOTHESIS, -1, -1);
        }
    }

    private static void conclusion() {
        for (int vars = 1; vars <= 6; vars++) {
            WuProver x = filled(vars);
            selected(x, WuProver.KIND_CONCLUSION, 0, vars);
            selected(x, WuProver.KIND_CONCLUSION, 1, -1);
            selected(x, WuProver.KIND_CONCLUSION, -1, -1);
            selected(x, WuProver.KIND_CONCLUSION, WuProver.TARGET_CONCLUSION, -1);
        }
    }

    private static void chain() {
        for (int vars = 1; vars <= 6; vars++) {
            WuProver x = filled(vars);
            for (int v = 0; v < vars; v++) {
                selected(x, WuProver.KIND_CHAIN, v, 2);
            }
            selected(x, WuProver.KIND_CHAIN, vars, -1);
            selected(x, WuProver.KIND_CHAIN, -1, -1);
        }
    }

    private static void quotients() {
        for (int vars = 1; vars <= 6; vars++) {
            WuProver x = filled(vars);
            for (int v = 0; v < vars; v++) {
                selected(x, WuProver.KIND_QUOTIENT, v, 3);
            }
            selected(x, WuProver.KIND_QUOTIENT, vars, -1);
            selected(x, WuProver.KIND_QUOTIENT, -1, -1);
        }
    }

    private static void remainder() {
        for (int vars = 1; vars <= 6; vars++) {
            WuProver x = filled(vars);
            selected(x, WuProver.KIND_REMAINDER, 0, 1);
            selected(x, WuProver.KIND_REMAINDER, 1, -1);
            selected(x, WuProver.KIND_REMAINDER, -1, -1);
        }
    }

    private static void otherKinds() {
        for (int vars = 1; vars <= 6; vars++) {
            WuProver x = filled(vars);
            for (int kind : new int[] {-1, -2, LEAST, LEAST + 1, 5, 6, 8, 16, 256, GREATEST}) {
                for (int index : new int[] {-1, 0, 1, 5, 7, LEAST, GREATEST}) {
                    selected(x, kind, index, -1);
                }
            }
        }
    }

    private static void otherIndices() {
        int[] outside = {-1, -2, -8, -22, LEAST, LEAST + 1, 8, 9, 15, 16, 21, 22, 34, 256, GREATEST - 1, GREATEST};
        for (int vars = 1; vars <= 6; vars++) {
            WuProver x = filled(vars);
            int[] lengths = {8, 1, vars, vars, 1};
            for (int kind = 0; kind <= 4; kind++) {
                for (int index : outside) {
                    selected(x, kind, index, -1);
                }
                for (int index = lengths[kind]; index < 16; index++) {
                    selected(x, kind, index, -1);
                }
            }
        }
    }

    private static void counts() {
        WuProver x = new WuProver(4, 2);
        for (int terms = 0; terms <= 16; terms++) {
            selected(x, WuProver.KIND_HYPOTHESIS, 7, terms);
            selected(x, WuProver.KIND_CONCLUSION, 0, 0);
            Tools.due("another term", x.addTerm(7, 1, 15 * terms), terms < 16 ? terms + 1 : -1);
        }
        selected(x, WuProver.KIND_HYPOTHESIS, 7, 16);
        x = Tools.with(4, 2, "x1" + Tools.powers(0, 1, 15), "x1^2" + Tools.powers(0, 1, 15));
        x.prove();
        selected(x, WuProver.KIND_CHAIN, 1, 16);
        selected(x, WuProver.KIND_CHAIN, 0, 0);
        selected(x, WuProver.KIND_QUOTIENT, 1, 0);
        selected(x, WuProver.KIND_REMAINDER, 0, 16);
    }

    private static void changesNothing() {
        for (int status = 0; status <= 4; status++) {
            WuProver x = Tools.inStatus(status);
            Tools.kept("a hypothesis", x, () -> x.termCount(0, 0), 2);
            Tools.kept("an invalid kind", x, () -> x.termCount(5, 0), -1);
            Tools.kept("an invalid index", x, () -> x.termCount(2, 3), -1);
        }
    }
}
