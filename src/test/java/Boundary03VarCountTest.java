/** The boundary cases of promise 3 and of VARIABLES and MONOMIAL CODE, each under the words that name it. */
public final class Boundary03VarCountTest {
    public static void main(String[] args) {
        Tools.test("varCount() answers V, the clamped variable count 1..6", Boundary03VarCountTest::ends);
        Tools.test("It changes nothing.", Boundary03VarCountTest::changesNothing);
        Tools.test("ordered x_0 < x_1 < ... < x_{V-1}", Boundary03VarCountTest::order);
        Tools.test("each e_i in 0..15", Boundary03VarCountTest::exponents);
        Tools.test("Code 0 is the constant monomial 1.", Boundary03VarCountTest::codeZero);
        Tools.test("The zero polynomial has no terms.", Boundary03VarCountTest::zeroPolynomial);
        Tools.end();
    }

    private static void ends() {
        int[] given = {Integer.MIN_VALUE, -1, 0, 1, 2, 5, 6, 7, 8, Integer.MAX_VALUE};
        int[] want = {1, 1, 1, 1, 2, 5, 6, 6, 6, 6};
        for (int i = 0; i < given.length; i++) {
            Tools.due("varCount() of " + given[i], new WuProver(4, given[i]).varCount(), want[i]);
        }
    }

    private static void changesNothing() {
        for (int status = 0; status <= 4; status++) {
            WuProver x = Tools.inStatus(status);
            Tools.kept("varCount()", x, x::varCount, 3);
        }
    }

    private static void order() {
        for (int v = 0; v < 6; v++) {
            // Every lower variable with its greatest exponent stays below x_v.
            WuProver x = new WuProver(4, 6);
            x.addTerm(0, 1, 1 << (4 * v));
            x.addTerm(0, 1, (1 << (4 * v)) - 1);
            Tools.due("the class", x.classOf(0, 0), v == 0 ? 0 : v);
            Tools.due("x_v is the last term", x.termCode(0, 0, 1), 1 << (4 * v));
        }
    }

    private static void exponents() {
        for (int v = 0; v < 6; v++) {
            WuProver x = new WuProver(4, 6);
            Tools.due("the exponent 15", x.addTerm(0, 1, 15 << (4 * v)), 1);
            Tools.due("its code", x.termCode(0, 0, 0), 15 << (4 * v));
            Tools.due("its class", x.classOf(0, 0), v);
            Tools.due("the exponent 1", x.addTerm(1, 1, 1 << (4 * v)), 1);
            Tools.due("its class", x.classOf(0, 1), v);
            // 16 in the place of x_v is 1 in the place of the next variable.
            Tools.due("the code after x_v^15", x.addTerm(2, 1, 16 << (4 * v)), v == 5 ? -1 : 1);
            Tools.due("its class", x.classOf(0, 2), v == 5 ? -2 : v + 1);
        }
    }

    private static void codeZero() {
        for (int vars = 1; vars <= 6; vars++) {
            WuProver x = new WuProver(4, vars);
            Tools.due("code 0", x.addTerm(8, 7, 0), 1);
            Tools.due("is a constant", x.classOf(WuProver.KIND_CONCLUSION, 0), -1);
            Tools.due("with the code 0", x.termCode(WuProver.KIND_CONCLUSION, 0, 0), 0);
            Tools.due("prove()", x.prove(), WuProver.STATUS_NOT_PROVED);
            Tools.due("the remainder", Tools.remainder(x), "7");
        }
    }

    private static void zeroPolynomial() {
        WuProver x = new WuProver(4, 2);
        Tools.enter(x, 0, "x1 + 3");
        Tools.enter(x, 0, "-x1 - 3");
        Tools.due("termCount()", x.termCount(0, 0), 0);
        Tools.due("classOf()", x.classOf(0, 0), -2);
        Tools.due("termCode()", x.termCode(0, 0, 0), -1);
        Tools.due("termCoef()", x.termCoef(0, 0, 0), -1);
    }
}
