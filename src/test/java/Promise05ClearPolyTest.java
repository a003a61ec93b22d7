/** Promise 5: clearPoly() empties one input and clears the results, or refuses. */
public final class Promise05ClearPolyTest {
    public static void main(String[] args) {
        for (int target = 0; target <= 8; target++) {
            WuProver x = filled();
            Tools.due("clearPoly(" + target + ")", x.clearPoly(target), 0);
            StringBuilder rest = new StringBuilder();
            for (int i = 0; i <= 8; i++) {
                rest.append(i == target ? "(class-2)" : "(1:100 16:" + (i + 1) + " class1)");
            }
            Tools.due("only that input is empty", Tools.inputs(x), rest.toString());
            Tools.due("results are cleared", Tools.results(x), Tools.clearedResults(2, 0));
            x.prove();
            Tools.due("an empty one again", x.clearPoly(target), 0);
            Tools.due("inputs are as they were", Tools.inputs(x), rest.toString());
            Tools.due("results are cleared again", Tools.results(x), Tools.clearedResults(2, 0));
        }
        for (int target : new int[] {Integer.MIN_VALUE, -1, 9, 10, Integer.MAX_VALUE}) {
            WuProver x = filled();
            String before = Tools.everything(x);
            Tools.due("clearPoly(" + target + ")", x.clearPoly(target), -1);
            Tools.due("a refusal changes nothing", Tools.everything(x), before);
        }
        afterClearing();
        Tools.end();
    }

    private static WuProver filled() {
        WuProver x = new WuProver(4, 2);
        for (int target = 0; target <= 8; target++) {
            Tools.enter(x, target, (target + 1) + "*x1 - x0");
        }
        Tools.due("prove()", x.prove(), WuProver.STATUS_PROVED);
        Tools.due("chainSize()", x.chainSize(), 2);
        return x;
    }

    private static void afterClearing() {
        WuProver x = new WuProver(4, 2);
        Tools.enter(x, 0, "7");
        Tools.enter(x, 1, "x1 - x0");
        Tools.enter(x, 8, "x1 - x0");
        Tools.due("prove() with a constant", x.prove(), WuProver.STATUS_INCONSISTENT);
        Tools.due("clearPoly(0)", x.clearPoly(0), 0);
        Tools.due("status()", x.status(), WuProver.STATUS_IDLE);
        Tools.due("prove() without it", x.prove(), WuProver.STATUS_PROVED);
        Tools.due("a cleared input can be filled", x.addTerm(0, 3, 1), 1);
        Tools.due("with the new term alone", Tools.show(x, 0, 0), "3*x0");
    }
}
