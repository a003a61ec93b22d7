/** The boundary cases of promise 13, each under the words that name it. */
public final class Boundary13ChainSizeTest {
    public static void main(String[] args) {
        Tools.test("the number of v in 0..V-1 with T_v nonzero", Boundary13ChainSizeTest::everySubset);
        Tools.test("0 on a fresh object", Boundary13ChainSizeTest::fresh);
        Tools.test("and after any clearing of the results -- by addTerm", Boundary13ChainSizeTest::afterAddTerm);
        Tools.test("and after any clearing of the results -- by clearPoly", Boundary13ChainSizeTest::afterClearPoly);
        Tools.test("and after any clearing of the results -- by a stop of prove", Boundary13ChainSizeTest::afterStops);
        Tools.test("and after any clearing of the results -- a refused call is none",
                Boundary13ChainSizeTest::afterRefusals);
        Tools.test("between 0 and V otherwise", Boundary13ChainSizeTest::noneAndAll);
        Tools.test("It changes nothing.", Boundary13ChainSizeTest::changesNothing);
        Tools.end();
    }

    private static void everySubset() {
        for (int subset = 0; subset < 64; subset++) {
            WuProver x = new WuProver(4, 6);
            for (int v = 0; v < 6; v++) {
                Tools.enter(x, v, (subset >> v & 1) == 1 ? "x" + v + "^2 - 1" : "");
            }
            Tools.proved(WuProver.STATUS_PROVED, x);
            Tools.due("chainSize() of subset " + subset, x.chainSize(), Integer.bitCount(subset));
        }
    }

    private static void fresh() {
        for (int vars = 1; vars <= 6; vars++) {
            Tools.due("chainSize()", new WuProver(4, vars).chainSize(), 0);
        }
        Tools.due("with inputs, before prove()", Tools.inStatus(0).chainSize(), 0);
    }

    private static void afterAddTerm() {
        int[][] calls = {{0, 1, 17}, {0, -1, 256}, {0, 0, 0}, {8, 101, 4095}, {7, 1, 0}};
        for (int status = 1; status <= 2; status++) {
            for (int[] call : calls) {
                WuProver x = Tools.inStatus(status);
                Tools.due("before", x.chainSize(), 2);
                x.addTerm(call[0], call[1], call[2]);
                Tools.due("after", x.chainSize(), 0);
            }
        }
    }

    private static void afterClearPoly() {
        for (int target = 0; target <= 8; target++) {
            WuProver x = Tools.inStatus(2);
            x.clearPoly(target);
            Tools.due("after clearPoly(" + target + ")", x.chainSize(), 0);
        }
    }

    private static void afterStops() {
        Tools.due("a contradiction", Tools.inStatus(3).chainSize(), 0);
        Tools.due("an overflow of the conclusion", Tools.inStatus(4).chainSize(), 0);
        WuProver x = Tools.with(4, 3, "", "x2 - x1", "x1 + x0", "x0^15*x1");
        Tools.proved(WuProver.STATUS_OVERFLOW, x);
        Tools.due("an overflow of the hypotheses", x.chainSize(), 0);
    }

    private static void afterRefusals() {
        for (int status = 1; status <= 2; status++) {
            WuProver x = Tools.inStatus(status);
            x.addTerm(9, 1, 0);
            x.addTerm(0, 1, 4096);
            x.clearPoly(9);
            Tools.due("after refused calls", x.chainSize(), 2);
        }
    }

    private static void noneAndAll() {
        for (int vars = 1; vars <= 6; vars++) {
            WuProver x = new WuProver(4, vars);
            Tools.proved(WuProver.STATUS_PROVED, x);
            Tools.due("none with V = " + vars, x.chainSize(), 0);
            for (int i = 0; i < 8; i++) {
                int v = i % vars;
                Tools.enter(x, i, "x" + v + "^" + (1 + i / vars));
            }
            Tools.proved(WuProver.STATUS_PROVED, x);
            Tools.due("eight hypotheses, V = " + vars, x.chainSize(), vars);
        }
    }

    private static void changesNothing() {
        int[] sizes = {0, 2, 2, 0, 0};
        for (int status = 0; status <= 4; status++) {
            WuProver x = Tools.inStatus(status);
            Tools.kept("chainSize()", x, x::chainSize, sizes[status]);
        }
    }
}
