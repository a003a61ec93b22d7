/** The boundary cases of promise 7, each under the words that name it. */
public final class Boundary07StatusTest {
    public static void main(String[] args) {
        Tools.test("STATUS_IDLE on a fresh object", Boundary07StatusTest::fresh);
        Tools.test("and after a successful addTerm", Boundary07StatusTest::afterAddTerm);
        Tools.test("after a successful addTerm or clearPoly", Boundary07StatusTest::afterClearPoly);
        Tools.test("after a successful addTerm or clearPoly -- not after one that is refused",
                Boundary07StatusTest::afterRefusals);
        Tools.test("otherwise the code answered by the latest prove()", Boundary07StatusTest::latestProve);
        Tools.test("It changes nothing.", Boundary07StatusTest::changesNothing);
        Tools.end();
    }

    private static void fresh() {
        for (int vars = 1; vars <= 6; vars++) {
            Tools.due("status()", new WuProver(vars, vars).status(), WuProver.STATUS_IDLE);
        }
    }

    private static void afterAddTerm() {
        // A new term, a term changed, a term removed, and nothing changed at all.
        int[][] calls = {{0, 1, 17}, {0, 1, 256}, {0, -1, 256}, {0, 0, 256}, {7, 0, 0}, {8, 101, 4095}};
        for (int status = 0; status <= 4; status++) {
            for (int[] call : calls) {
                WuProver x = Tools.inStatus(status);
                Tools.due("a success", x.addTerm(call[0], call[1], call[2]) >= 0 ? 1 : 0, 1);
                Tools.due("status() after " + status, x.status(), WuProver.STATUS_IDLE);
            }
        }
    }

    private static void afterClearPoly() {
        for (int status = 0; status <= 4; status++) {
            for (int target = 0; target <= 8; target++) {
                WuProver x = Tools.inStatus(status);
                Tools.due("clearPoly(" + target + ")", x.clearPoly(target), 0);
                Tools.due("status() after " + status, x.status(), WuProver.STATUS_IDLE);
            }
        }
    }

    private static void afterRefusals() {
        for (int status = 0; status <= 4; status++) {
            WuProver x = Tools.inStatus(status);
            Tools.due("a wrong target", x.addTerm(9, 1, 0), -1);
            Tools.due("status()", x.status(), status);
            Tools.due("a wrong code", x.addTerm(0, 1, 4096), -1);
            Tools.due("status()", x.status(), status);
            Tools.due("a wrong target", x.clearPoly(-1), -1);
            Tools.due("status()", x.status(), status);
        }
        WuProver x = Tools.with(4, 2, "1" + Tools.powers(0, 1, 15));
        Tools.due("prove()", x.prove(), WuProver.STATUS_NOT_PROVED);
        Tools.due("a seventeenth term", x.addTerm(8, 1, 16), -1);
        Tools.due("status()", x.status(), WuProver.STATUS_NOT_PROVED);
    }

    private static void latestProve() {
        // From each status to each other one.
        String[] conclusions = {"", "x0*x2 - 1", "x2", "x2", "x0^15*x2"};
        for (int first = 1; first <= 4; first++) {
            for (int second = 1; second <= 4; second++) {
                WuProver x = Tools.inStatus(first);
                x.clearPoly(2);
                x.clearPoly(8);
                Tools.enter(x, 2, second == 3 ? "1" : "");
                Tools.enter(x, 8, conclusions[second]);
                Tools.due("before the second prove()", x.status(), WuProver.STATUS_IDLE);
                Tools.due("the second prove()", x.prove(), second);
                Tools.due("status()", x.status(), second);
                Tools.due("the third prove()", x.prove(), second);
                Tools.due("status()", x.status(), second);
            }
        }
    }

    private static void changesNothing() {
        for (int status = 0; status <= 4; status++) {
            WuProver x = Tools.inStatus(status);
            Tools.kept("status()", x, x::status, status);
        }
    }
}
