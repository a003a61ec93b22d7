/** Promise 10: classOf() answers the greatest variable, -1 for a constant, -2 for zero, -3 for no polynomial. */
public final class Promise10ClassOfTest {
    public static void main(String[] args) {
        for (int vars = 1; vars <= 6; vars++) {
            selections(vars);
        }
        inputs();
        results();
        Tools.end();
    }

    private static void selections(int vars) {
        WuProver x = new WuProver(4, vars);
        int[] numbers = {Integer.MIN_VALUE, -2, -1, 0, 1, 2, 3, 4, 5, 6, 7, 8, 9, 15, 34, Integer.MAX_VALUE};
        for (int kind : numbers) {
            for (int index : numbers) {
                int length = kind == 0 ? 8 : kind == 1 || kind == 4 ? 1 : kind == 2 || kind == 3 ? vars : 0;
                int want = index >= 0 && index < length ? -2 : -3;
                Tools.due("classOf(" + kind + ", " + index + ") with V = " + vars, x.classOf(kind, index), want);
            }
        }
    }

    private static void inputs() {
        String[] texts = {"5", "x0", "x1 + x0^15 + 3", "x2*x0", "x3^15", "x0*x1*x2*x3*x4", "x5", "x5^15*x4^15", ""};
        int[] classes = {-1, 0, 1, 2, 3, 4, 5, 5, -2};
        for (int i = 0; i < texts.length; i++) {
            WuProver x = new WuProver(4, 6);
            Tools.enter(x, 6, texts[i]);
            Tools.enter(x, 8, texts[i]);
            String before = Tools.everything(x);
            Tools.due("classOf(0, 6) of " + texts[i], x.classOf(WuProver.KIND_HYPOTHESIS, 6), classes[i]);
            Tools.due("classOf(1, 0) of " + texts[i], x.classOf(WuProver.KIND_CONCLUSION, 0), classes[i]);
            Tools.due("classOf(0, 5) beside it", x.classOf(WuProver.KIND_HYPOTHESIS, 5), -2);
            Tools.due("state after classOf()", Tools.everything(x), before);
        }
        WuProver x = new WuProver(4, 3);
        Tools.enter(x, 0, "x2 + x1 + 1");
        x.addTerm(0, -1, 256);
        Tools.due("without its x2", x.classOf(0, 0), 1);
        x.addTerm(0, -1, 16);
        Tools.due("without its x1", x.classOf(0, 0), -1);
        x.addTerm(0, -1, 0);
        Tools.due("without any term", x.classOf(0, 0), -2);
    }

    private static void results() {
        WuProver x = new WuProver(4, 4);
        Tools.enter(x, 0, "x3 - x2");
        Tools.enter(x, 1, "x1^2 - x0");
        Tools.enter(x, 8, "x3*x1 + 5");
        Tools.due("prove()", x.prove(), WuProver.STATUS_NOT_PROVED);
        int[][] rows = {{2, 0, -2}, {2, 1, 1}, {2, 2, -2}, {2, 3, 3}, {3, 0, -2}, {3, 1, -2}, {3, 2, -2}, {3, 3, 1},
            {4, 0, 2}, {4, 1, -3}, {2, 4, -3}, {3, 4, -3}, {3, -1, -3}, {5, 0, -3}};
        for (int[] row : rows) {
            Tools.due("classOf(" + row[0] + ", " + row[1] + ")", x.classOf(row[0], row[1]), row[2]);
        }
        x.clearPoly(8);
        Tools.enter(x, 8, "4");
        x.prove();
        Tools.due("a constant remainder", x.classOf(WuProver.KIND_REMAINDER, 0), -1);
    }
}
