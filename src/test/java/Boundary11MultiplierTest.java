/** The boundary cases of promise 11, each under the words that name it. */
public final class Boundary11MultiplierTest {
    public static void main(String[] args) {
        Tools.test("multiplier(v) answers -1 for v outside 0..V-1. -- negative", Boundary11MultiplierTest::negative);
        Tools.test("multiplier(v) answers -1 for v outside 0..V-1. -- V or more", Boundary11MultiplierTest::tooLarge);
        Tools.test("Otherwise it answers k_v", Boundary11MultiplierTest::leastAndGreatest);
        Tools.test("which is -1 when T_v is zero", Boundary11MultiplierTest::noElement);
        Tools.test("every k_v becomes -1 -- by each way of clearing the results", Boundary11MultiplierTest::cleared);
        Tools.test("It changes nothing.", Boundary11MultiplierTest::changesNothing);
        Tools.end();
    }

    /** V variables, and v + 1 as the multiplier of each. */
    private static WuProver filled(int vars) {
        WuProver x = new WuProver(4, vars);
        for (int v = 0; v < vars; v++) {
            Tools.enter(x, v, "x" + v);
            Tools.enter(x, 8, "x" + v + "^" + (v + 1));
        }
        Tools.due("prove()", x.prove(), WuProver.STATUS_PROVED);
        return x;
    }

    private static void negative() {
        for (int vars = 1; vars <= 6; vars++) {
            WuProver x = filled(vars);
            for (int v : new int[] {-1, -2, -6, -256, Integer.MIN_VALUE + 1, Integer.MIN_VALUE}) {
                Tools.due("multiplier(" + v + ") with V = " + vars, x.multiplier(v), -1);
            }
        }
    }

    private static void tooLarge() {
        for (int vars = 1; vars <= 6; vars++) {
            WuProver x = filled(vars);
            Tools.due("the last one with V = " + vars, x.multiplier(vars - 1), vars);
            for (int v : new int[] {vars, vars + 1, 6, 7, 8, 256, Integer.MAX_VALUE - 1, Integer.MAX_VALUE}) {
                Tools.due("multiplier(" + v + ") with V = " + vars, x.multiplier(v), -1);
            }
        }
    }

    private static void leastAndGreatest() {
        for (int v = 0; v < 6; v++) {
            for (int k = 0; k <= 15; k++) {
                WuProver x = Tools.with(4, 6, "x" + v + "^" + k, "x" + v + " - 1");
                Tools.due("prove()", x.prove(), WuProver.STATUS_NOT_PROVED);
                Tools.due("multiplier(" + v + ")", x.multiplier(v), k);
            }
        }
    }

    private static void noElement() {
        for (int none = 0; none < 6; none++) {
            WuProver x = filled(6);
            x.clearPoly(none);
            Tools.due("prove()", x.prove(), WuProver.STATUS_NOT_PROVED);
            for (int v = 0; v < 6; v++) {
                Tools.due("multiplier(" + v + ")", x.multiplier(v), v == none ? -1 : v + 1);
            }
        }
    }

    private static void cleared() {
        for (int way = 0; way < 4; way++) {
            WuProver x = filled(6);
            switch (way) {
                case 0:
                    x.addTerm(0, 0, 0);
                    break;
                case 1:
                    x.clearPoly(7);
                    break;
                case 2:
                    x.addTerm(7, 1, 0);
                    Tools.due("prove()", x.prove(), WuProver.STATUS_INCONSISTENT);
                    break;
                default:
                    Tools.enter(x, 5, "x0");
                    Tools.enter(x, 7, "x0^15*x5");
                    Tools.due("prove()", x.prove(), WuProver.STATUS_OVERFLOW);
                    break;
            }
            for (int v = 0; v < 6; v++) {
                Tools.due("multiplier(" + v + ")", x.multiplier(v), -1);
            }
        }
        // A refused call is no clearing.
        WuProver x = filled(6);
        x.addTerm(9, 1, 0);
        x.clearPoly(9);
        Tools.due("multiplier(5)", x.multiplier(5), 6);
    }

    private static void changesNothing() {
        for (int status = 0; status <= 4; status++) {
            WuProver x = Tools.inStatus(status);
            boolean stands = status == WuProver.STATUS_PROVED || status == WuProver.STATUS_NOT_PROVED;
            Tools.kept("multiplier(2)", x, () -> x.multiplier(2), stands ? 1 : -1);
            Tools.kept("multiplier(0)", x, () -> x.multiplier(0), -1);
            Tools.kept("multiplier(3)", x, () -> x.multiplier(3), -1);
            Tools.kept("multiplier(-1)", x, () -> x.multiplier(-1), -1);
        }
    }
}
