/** Promise 1: the constructor clamps its arguments, and a fresh object is empty. */
public final class Promise01ConstructionTest {
    public static void main(String[] args) {
        int[] indices = {Integer.MIN_VALUE, -2, -1, 0, 1, 2, 3, 4, 5, 6, 7, 8, 9, 100, Integer.MAX_VALUE};
        int[] counts = {Integer.MIN_VALUE, -1, 0, 1, 2, 3, 4, 5, 6, 7, 8, 1000, Integer.MAX_VALUE};
        for (int index : indices) {
            for (int count : counts) {
                fresh(index, count);
            }
        }
        neverChanges();
        objectsAreApart();
        Tools.end();
    }

    private static void fresh(int index, int count) {
        WuProver x = new WuProver(index, count);
        String at = "new WuProver(" + index + ", " + count + ")";
        int vars = Math.max(1, Math.min(6, count));
        Tools.due(at + " prime()", x.prime(), Tools.PRIMES[Math.max(0, Math.min(7, index))]);
        Tools.due(at + " varCount()", x.varCount(), vars);
        Tools.due(at + " status()", x.status(), WuProver.STATUS_IDLE);
        Tools.due(at + " chainSize()", x.chainSize(), 0);
        Tools.due(at + " check()", x.check(), WuProver.CHECK_NONE);
        Tools.due(at + " inputs", Tools.inputs(x), "(class-2)".repeat(9));
        Tools.due(at + " results", Tools.results(x), Tools.clearedResults(vars, 0));
        for (int v = -1; v < 7; v++) {
            Tools.due(at + " multiplier(" + v + ")", x.multiplier(v), -1);
        }
    }

    private static void neverChanges() {
        WuProver x = new WuProver(5, 3);
        Tools.enter(x, 0, "x2 - x1");
        Tools.enter(x, 8, "x2");
        x.prove();
        x.check();
        x.clearPoly(0);
        Tools.due("prime() after calls", x.prime(), 1009);
        Tools.due("varCount() after calls", x.varCount(), 3);
    }

    private static void objectsAreApart() {
        WuProver x = new WuProver(4, 2);
        WuProver y = new WuProver(0, 1);
        Tools.enter(x, 0, "x1 - x0");
        x.prove();
        Tools.due("the other object's inputs", Tools.inputs(y), "(class-2)".repeat(9));
        Tools.due("the other object's results", Tools.results(y), Tools.clearedResults(1, 0));
        Tools.due("the first object's prime()", x.prime(), 101);
    }
}
