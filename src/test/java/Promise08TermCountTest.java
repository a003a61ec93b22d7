/** Promise 8: termCount() answers -1 for an invalid selection, else the number of terms. */
public final class Promise08TermCountTest {
    public static void main(String[] args) {
        for (int vars = 1; vars <= 6; vars++) {
            selections(vars);
        }
        counts();
        Tools.end();
    }

    private static void selections(int vars) {
        WuProver x = new WuProver(4, vars);
        int[] numbers = {Integer.MIN_VALUE, -100, -2, -1, 0, 1, 2, 3, 4, 5, 6, 7, 8, 9, 15, 21, 22, 34, 1000,
            Integer.MAX_VALUE};
        for (int kind : numbers) {
            for (int index : numbers) {
                int length = kind == 0 ? 8 : kind == 1 || kind == 4 ? 1 : kind == 2 || kind == 3 ? vars : 0;
                int want = index >= 0 && index < length ? 0 : -1;
                Tools.due("termCount(" + kind + ", " + index + ") with V = " + vars, x.termCount(kind, index), want);
            }
        }
    }

    private static void counts() {
        WuProver x = new WuProver(4, 3);
        for (int target = 0; target <= 8; target++) {
            for (int code = 0; code <= target; code++) {
                x.addTerm(target, 1, code + 1);
            }
        }
        for (int index = 0; index < 8; index++) {
            Tools.due("termCount(0, " + index + ")", x.termCount(WuProver.KIND_HYPOTHESIS, index), index + 1);
        }
        Tools.due("termCount(1, 0)", x.termCount(WuProver.KIND_CONCLUSION, 0), 9);

        x = new WuProver(4, 3);
        Tools.enter(x, 5, "x2 - x1 - x0");
        Tools.enter(x, 6, "x1 - 1");
        Tools.enter(x, 8, "x2^2");
        Tools.due("prove()", x.prove(), WuProver.STATUS_NOT_PROVED);
        String before = Tools.everything(x);
        int[][] rows = {{2, 0, 0}, {2, 1, 2}, {2, 2, 3}, {3, 0, 0}, {3, 1, 3}, {3, 2, 3}, {4, 0, 3}, {0, 5, 3},
            {0, 0, 0}, {1, 0, 1}, {2, 3, -1}, {3, 3, -1}, {4, 1, -1}, {1, 1, -1}, {0, 8, -1}, {5, 0, -1}};
        for (int[] row : rows) {
            Tools.due("termCount(" + row[0] + ", " + row[1] + ")", x.termCount(row[0], row[1]), row[2]);
        }
        Tools.due("state after termCount()", Tools.everything(x), before);
    }
}
