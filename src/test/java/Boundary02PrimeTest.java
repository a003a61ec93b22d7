/** The boundary cases of promise 2 and of FIELD, each under the words that name it. */
public final class Boundary02PrimeTest {
    public static void main(String[] args) {
        Tools.test("prime() answers p, the prime selected at construction", Boundary02PrimeTest::endsOfTheList);
        Tools.test("It changes nothing.", Boundary02PrimeTest::changesNothing);
        Tools.test("All coefficient arithmetic is modulo p, giving the true residue",
                Boundary02PrimeTest::greatestProducts);
        Tools.test("stored coefficients lie in 1..p-1", Boundary02PrimeTest::storedCoefficients);
        Tools.end();
    }

    private static void endsOfTheList() {
        Tools.due("the first", new WuProver(0, 1).prime(), 2);
        Tools.due("the last", new WuProver(7, 1).prime(), 32749);
        Tools.due("before the first", new WuProver(-1, 1).prime(), 2);
        Tools.due("after the last", new WuProver(8, 1).prime(), 32749);
    }

    private static void changesNothing() {
        for (int status = 0; status <= 4; status++) {
            WuProver x = Tools.inStatus(status);
            Tools.kept("prime()", x, x::prime, 101);
        }
    }

    /** Coefficients of p - 1 all over: where a product or a sum leaves the int or is not reduced, this is wrong. */
    private static void greatestProducts() {
        for (int index = 0; index < 8; index++) {
            int p = Tools.PRIMES[index];
            // (-1)^15 * (-x1^15) = Q*(-x1 - 1) + R: the remainder is the value at x1 = -1 times (-1)^15.
            WuProver x = Tools.with(index, 2, "-x1^15", "-x1 - 1");
            Tools.due("prove() modulo " + p, x.prove(), WuProver.STATUS_NOT_PROVED);
            Tools.due("multiplier(1)", x.multiplier(1), 15);
            Tools.due("the remainder modulo " + p, Tools.remainder(x), Integer.toString(p - 1));
            Tools.due("check()", x.check(), WuProver.CHECK_OK);
            // -(x1 + x0 + 1) squared: many products of p - 1 fall on one monomial.
            x = Tools.with(index, 2, "x1^2", "-x1 - x0 - 1");
            Tools.due("prove() modulo " + p, x.prove(), WuProver.STATUS_NOT_PROVED);
            Tools.due("(x0 + 1)^2 modulo " + p, Tools.remainder(x), p == 2 ? "1 + 1*x0^2" : "1 + 2*x0 + 1*x0^2");
            Tools.due("check()", x.check(), WuProver.CHECK_OK);
        }
    }

    private static void storedCoefficients() {
        for (int index = 0; index < 8; index++) {
            int p = Tools.PRIMES[index];
            WuProver x = new WuProver(index, 1);
            Tools.due("0 is not stored", x.addTerm(0, 0, 3), 0);
            Tools.due("1 is", x.addTerm(0, 1, 3), 1);
            Tools.due("as 1", x.termCoef(0, 0, 0), 1);
            Tools.due("p - 1 is", x.addTerm(1, p - 1, 3), 1);
            Tools.due("as p - 1", x.termCoef(0, 1, 0), p - 1);
            Tools.due("p is not", x.addTerm(2, p, 3), 0);
            Tools.due("p + 1 is", x.addTerm(3, p + 1, 3), 1);
            Tools.due("as 1 again", x.termCoef(0, 3, 0), 1);
        }
    }
}
