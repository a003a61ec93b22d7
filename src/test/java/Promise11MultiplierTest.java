/** Promise 11: multiplier() answers the power of the initial that was used, or -1. */
public final class Promise11MultiplierTest {
    private static final int[] OUTSIDE = {Integer.MIN_VALUE, -2, -1, 6, 7, 100, Integer.MAX_VALUE};

    public static void main(String[] args) {
        WuProver x = new WuProver(4, 4);
        all(x, -1, -1, -1, -1);
        Tools.enter(x, 0, "x3^2 - x0");
        Tools.enter(x, 1, "2*x1 - x0");
        Tools.enter(x, 2, "x2^5 - 1");
        Tools.enter(x, 8, "x3^4 + x1 + x2^4");
        all(x, -1, -1, -1, -1);
        Tools.due("prove()", x.prove(), WuProver.STATUS_NOT_PROVED);
        String before = Tools.everything(x);
        all(x, -1, 1, 0, 3);
        Tools.due("state after multiplier()", Tools.everything(x), before);
        Tools.due("a refused call", x.addTerm(9, 1, 0), -1);
        all(x, -1, 1, 0, 3);
        Tools.due("zero is added", x.addTerm(0, 0, 0), 2);
        all(x, -1, -1, -1, -1);
        x.prove();
        all(x, -1, 1, 0, 3);
        x.clearPoly(2);
        all(x, -1, -1, -1, -1);
        x.prove();
        all(x, -1, 1, -1, 3);
        Tools.enter(x, 3, "1");
        Tools.due("prove() with a constant", x.prove(), WuProver.STATUS_INCONSISTENT);
        all(x, -1, -1, -1, -1);
        x.clearPoly(3);
        x.clearPoly(8);
        Tools.due("prove() of zero", x.prove(), WuProver.STATUS_PROVED);
        all(x, -1, 0, -1, 0);
        greatest();
        Tools.end();
    }

    private static void all(WuProver x, int k0, int k1, int k2, int k3) {
        int[] want = {k0, k1, k2, k3, -1, -1};
        for (int v = 0; v < want.length; v++) {
            Tools.due("multiplier(" + v + ")", x.multiplier(v), want[v]);
        }
        for (int v : OUTSIDE) {
            Tools.due("multiplier(" + v + ")", x.multiplier(v), -1);
        }
    }

    private static void greatest() {
        WuProver x = new WuProver(4, 6);
        Tools.enter(x, 0, "x5 - 1");
        Tools.enter(x, 8, "x5^15");
        Tools.due("prove()", x.prove(), WuProver.STATUS_NOT_PROVED);
        Tools.due("multiplier(5)", x.multiplier(5), 15);
        Tools.due("the quotient has fifteen terms", x.termCount(WuProver.KIND_QUOTIENT, 5), 15);
        Tools.due("the remainder", Tools.remainder(x), "1");
    }
}
