/** Promise 13: chainSize() counts the nonzero chain elements. */
public final class Promise13ChainSizeTest {
    public static void main(String[] args) {
        for (int vars = 1; vars <= 6; vars++) {
            growing(vars);
        }
        clearing();
        manyOfOneClass();
        Tools.end();
    }

    private static void growing(int vars) {
        WuProver x = new WuProver(4, vars);
        Tools.due("fresh", x.chainSize(), 0);
        x.prove();
        Tools.due("no hypothesis", x.chainSize(), 0);
        for (int v = 0; v < vars; v++) {
            Tools.enter(x, 7 - v, "x" + v + "^2 - 3");
            Tools.due("before prove()", x.chainSize(), 0);
            Tools.due("prove()", x.prove(), WuProver.STATUS_PROVED);
            Tools.due("with " + (v + 1) + " hypotheses", x.chainSize(), v + 1);
        }
        String before = Tools.everything(x);
        x.chainSize();
        Tools.due("state after chainSize()", Tools.everything(x), before);
    }

    private static void clearing() {
        WuProver x = new WuProver(4, 3);
        Tools.enter(x, 0, "x2 - x0");
        Tools.enter(x, 1, "x0 - 1");
        x.prove();
        Tools.due("two elements with a gap", x.chainSize(), 2);
        x.addTerm(-1, 1, 0);
        Tools.due("after a refusal", x.chainSize(), 2);
        x.addTerm(2, 0, 0);
        Tools.due("after addTerm()", x.chainSize(), 0);
        x.prove();
        x.clearPoly(5);
        Tools.due("after clearPoly()", x.chainSize(), 0);
        Tools.enter(x, 2, "x0 - 2");
        Tools.due("prove()", x.prove(), WuProver.STATUS_INCONSISTENT);
        Tools.due("after a contradiction", x.chainSize(), 0);
        x.clearPoly(2);
        Tools.enter(x, 2, "x0^15*x1 + 1");
        Tools.enter(x, 3, "x0^15*x1 + x0");
        Tools.due("prove()", x.prove(), WuProver.STATUS_OVERFLOW);
        Tools.due("after an overflow", x.chainSize(), 0);
    }

    private static void manyOfOneClass() {
        WuProver x = new WuProver(4, 2);
        for (int i = 0; i < 8; i++) {
            Tools.enter(x, i, "x1 - x0");
        }
        Tools.due("prove()", x.prove(), WuProver.STATUS_PROVED);
        Tools.due("eight times the same", x.chainSize(), 1);
    }
}
