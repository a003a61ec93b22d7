/** Promise 3: varCount() answers the clamped count of variables and changes nothing. */
public final class Promise03VarCountTest {
    public static void main(String[] args) {
        for (int count = -1; count <= 8; count++) {
            WuProver x = new WuProver(4, count);
            int vars = count < 1 ? 1 : count > 6 ? 6 : count;
            Tools.due("varCount() of " + count, x.varCount(), vars);
            Tools.due("the last code is valid", x.addTerm(0, 1, (1 << (4 * vars)) - 1), 1);
            Tools.due("the next one is not", x.addTerm(0, 1, 1 << (4 * vars)), -1);
            x.prove();
            String before = Tools.everything(x);
            Tools.due("varCount() again", x.varCount(), vars);
            Tools.due("state after varCount()", Tools.everything(x), before);
        }
        Tools.due("varCount() of the least int", new WuProver(0, Integer.MIN_VALUE).varCount(), 1);
        Tools.due("varCount() of the greatest int", new WuProver(0, Integer.MAX_VALUE).varCount(), 6);
        Tools.end();
    }
}
