/** Promise 7: status() is idle until prove(), then its answer, until an input changes. */
public final class Promise07StatusTest {
    public static void main(String[] args) {
        // Each row: hypothesis 0, hypothesis 1, conclusion, the status.
        String[][] rows = {
            {"x1 - x0", "", "x1 - x0", "1"},
            {"x1 - x0", "", "x1", "2"},
            {"x0", "x0 + 1", "x1", "3"},
            {"x0^15*x1 + 1", "x0^15*x1 + x0", "x1", "4"},
        };
        for (String[] row : rows) {
            int status = Integer.parseInt(row[3]);
            WuProver x = new WuProver(4, 2);
            Tools.due("fresh", x.status(), WuProver.STATUS_IDLE);
            Tools.enter(x, 0, row[0]);
            Tools.enter(x, 1, row[1]);
            Tools.enter(x, 8, row[2]);
            Tools.due("before prove()", x.status(), WuProver.STATUS_IDLE);
            Tools.due("prove()", x.prove(), status);
            String before = Tools.everything(x);
            Tools.due("after prove()", x.status(), status);
            Tools.due("again", x.status(), status);
            Tools.due("state after status()", Tools.everything(x), before);
            x.check();
            x.termCount(0, 0);
            x.addTerm(9, 1, 0);
            x.addTerm(0, 1, -1);
            x.clearPoly(-1);
            Tools.due("after calls that change nothing", x.status(), status);
            x.addTerm(7, 0, 0);
            Tools.due("after addTerm()", x.status(), WuProver.STATUS_IDLE);
            x.prove();
            Tools.due("after prove() again", x.status(), status);
            x.clearPoly(7);
            Tools.due("after clearPoly()", x.status(), WuProver.STATUS_IDLE);
        }
        Tools.end();
    }
}
