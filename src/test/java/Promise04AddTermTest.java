/** Promise 4: addTerm() adds one term to one input, clears the results, or refuses. */
public final class Promise04AddTermTest {
    public static void main(String[] args) {
        ordinary();
        residues();
        refusals();
        fullPolynomial();
        successClears();
        order();
        Tools.end();
    }

    private static void ordinary() {
        for (int target = 0; target <= 8; target++) {
            WuProver x = new WuProver(4, 2);
            Tools.due("first term", x.addTerm(target, 5, 33), 1);
            Tools.due("second term", x.addTerm(target, 7, 2), 2);
            Tools.due("same code", x.addTerm(target, 97, 33), 2);
            int kind = target == 8 ? WuProver.KIND_CONCLUSION : WuProver.KIND_HYPOTHESIS;
            int index = target == 8 ? 0 : target;
            Tools.due("polynomial", Tools.show(x, kind, index), "7*x0^2 + 1*x0*x1^2");
            StringBuilder rest = new StringBuilder();
            for (int i = 0; i <= 8; i++) {
                rest.append(i == target ? "(2:7 33:1 class1)" : "(class-2)");
            }
            Tools.due("no other input changes", Tools.inputs(x), rest.toString());
            Tools.due("sum is zero", x.addTerm(target, -1, 33), 1);
            Tools.due("last term goes", x.addTerm(target, 94, 2), 0);
            Tools.due("all are empty", Tools.inputs(x), "(class-2)".repeat(9));
        }
    }

    private static void residues() {
        int[] coefs = {Integer.MIN_VALUE, Integer.MIN_VALUE + 1, -2000000000, -32750, -32749, -32748, -102, -101, -100,
            -8, -7, -6, -3, -2, -1, 0, 1, 2, 3, 6, 7, 8, 100, 101, 102, 32748, 32749, 32750, 2000000000,
            Integer.MAX_VALUE - 1, Integer.MAX_VALUE};
        for (int index = 0; index < 8; index++) {
            for (int coef : coefs) {
                WuProver x = new WuProver(index, 1);
                long residue = Math.floorMod((long) coef, (long) Tools.PRIMES[index]);
                String call = "addTerm(3, " + coef + ", 4) modulo " + Tools.PRIMES[index];
                Tools.due(call, x.addTerm(3, coef, 4), residue == 0 ? 0 : 1);
                Tools.due(call + " termCoef", x.termCoef(0, 3, 0), residue == 0 ? -1 : residue);
            }
        }
    }

    private static void refusals() {
        for (int vars = 1; vars <= 6; vars++) {
            WuProver x = new WuProver(4, vars);
            Tools.enter(x, 0, "x0^2 - 1");
            Tools.enter(x, 8, "x0^3");
            x.prove();
            String before = Tools.everything(x);
            int end = 1 << (4 * vars);
            for (int target : new int[] {Integer.MIN_VALUE, -1, 9, 10, Integer.MAX_VALUE}) {
                Tools.due("target " + target, x.addTerm(target, 1, 0), -1);
                Tools.due("target " + target + " with coef 0", x.addTerm(target, 0, 0), -1);
            }
            for (int code : new int[] {Integer.MIN_VALUE, -1, end, end + 1, 1 << 24, 1 << 28, Integer.MAX_VALUE}) {
                Tools.due("code " + code, x.addTerm(0, 1, code), -1);
                Tools.due("code " + code + " with coef 0", x.addTerm(8, 0, code), -1);
            }
            Tools.due("a refusal changes nothing", Tools.everything(x), before);
            Tools.due("check() after refusals", x.check(), WuProver.CHECK_OK);
        }
    }

    private static void fullPolynomial() {
        WuProver x = new WuProver(4, 2);
        for (int code = 0; code < 16; code++) {
            Tools.due("term " + code, x.addTerm(8, code + 1, code), code + 1);
        }
        x.prove();
        String before = Tools.everything(x);
        Tools.due("a seventeenth term", x.addTerm(8, 1, 16), -1);
        Tools.due("the last of all codes", x.addTerm(8, -5, 255), -1);
        Tools.due("a full polynomial is kept", Tools.everything(x), before);
        Tools.due("another input takes the term", x.addTerm(7, 1, 16), 1);
        x.prove();
        Tools.due("zero to a new code", x.addTerm(8, 202, 16), 16);
        Tools.due("status() after zero", x.status(), WuProver.STATUS_IDLE);
        Tools.due("a code that is there", x.addTerm(8, 3, 5), 16);
        Tools.due("its coefficient", x.termCoef(1, 0, 5), 9);
        Tools.due("a term goes", x.addTerm(8, -9, 5), 15);
        Tools.due("its place is free", x.addTerm(8, 1, 16), 16);
        Tools.due("the next code moved up", x.termCode(1, 0, 5), 6);
        Tools.due("the new one is last", x.termCode(1, 0, 15), 16);
    }

    private static void successClears() {
        // A new term, a changed one, a removed one and no change at all: each clears the results.
        int[][] calls = {{0, 1, 2}, {0, 1, 1}, {0, 1, 16}, {0, -1, 16}, {0, 0, 0}, {8, 101, 3}, {5, -202, 255}};
        for (int[] call : calls) {
            WuProver x = new WuProver(4, 2);
            Tools.enter(x, 0, "x1 - x0");
            Tools.enter(x, 8, "x1");
            Tools.due("prove()", x.prove(), WuProver.STATUS_NOT_PROVED);
            Tools.due("success", x.addTerm(call[0], call[1], call[2]) >= 0 ? 1 : 0, 1);
            Tools.due("results after success", Tools.results(x), Tools.clearedResults(2, 0));
            Tools.due("check() after success", x.check(), WuProver.CHECK_NONE);
        }
        WuProver x = new WuProver(4, 2);
        Tools.enter(x, 0, "5");
        Tools.due("prove()", x.prove(), WuProver.STATUS_INCONSISTENT);
        Tools.due("refused", x.addTerm(0, 1, 256), -1);
        Tools.due("status() after a refusal", x.status(), WuProver.STATUS_INCONSISTENT);
        Tools.due("zero", x.addTerm(0, 0, 255), 1);
        Tools.due("status() after zero", x.status(), WuProver.STATUS_IDLE);
    }

    private static void order() {
        WuProver x = new WuProver(7, 6);
        int[] codes = {1, 0xf00000, 0x0000f0, 0xffffff, 0, 0x100000, 0x00ffff};
        for (int i = 0; i < codes.length; i++) {
            Tools.due("count", x.addTerm(2, i + 1, codes[i]), i + 1);
        }
        Tools.due("increasing codes", Tools.inputs(x), "(class-2)(class-2)"
                + "(0:5 1:1 240:3 65535:7 1048576:6 15728640:2 16777215:4 class5)" + "(class-2)".repeat(6));
    }
}
