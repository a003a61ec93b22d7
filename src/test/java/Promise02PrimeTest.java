/** Promise 2: prime() answers the chosen prime, all arithmetic is modulo it, and nothing changes. */
public final class Promise02PrimeTest {
    public static void main(String[] args) {
        for (int index = 0; index < 8; index++) {
            WuProver x = new WuProver(index, 2);
            int p = Tools.PRIMES[index];
            Tools.due("prime() at " + index, x.prime(), p);
            Tools.due("p is zero", x.addTerm(0, p, 1), 0);
            Tools.due("p - 1 is not", x.addTerm(0, p - 1, 1), 1);
            Tools.due("termCoef", x.termCoef(0, 0, 0), p - 1);
            Tools.due("p - 1 and 1 cancel", x.addTerm(0, 1, 1), 0);
            largestProduct(x, p);
        }
        WuProver x = new WuProver(-1, 2);
        Tools.due("prime() below the list", x.prime(), 2);
        x = new WuProver(8, 2);
        Tools.due("prime() above the list", x.prime(), 32749);
        Tools.end();
    }

    private static void largestProduct(WuProver x, int p) {
        // (-x1 - 1) divided into -x1 leaves (-1)*(-x1) - (-1)*(-x1 - 1) = -1.
        Tools.enter(x, 0, "-x1 - 1");
        Tools.enter(x, 8, "-x1");
        Tools.due("prove() modulo " + p, x.prove(), WuProver.STATUS_NOT_PROVED);
        Tools.due("remainder modulo " + p, Tools.remainder(x), Integer.toString(p - 1));
        String before = Tools.everything(x);
        Tools.due("prime() again", x.prime(), p);
        Tools.due("state after prime()", Tools.everything(x), before);
    }
}
