/** The boundary cases of promise 4, each under the words that name it. */
public final class Boundary04AddTermTest {
    private static final int LEAST = Integer.MIN_VALUE;
    private static final int GREATEST = Integer.MAX_VALUE;

    public static void main(String[] args) {
        Tools.test("target 0..7 means H_target; TARGET_CONCLUSION (8) means G", Boundary04AddTermTest::targets);
        Tools.test("target outside 0..8: refused.", Boundary04AddTermTest::targetOutside);
        Tools.test("code not valid (negative, or 16^V or more): refused. -- negative",
                Boundary04AddTermTest::codeNegative);
        Tools.test("code not valid (negative, or 16^V or more): refused. -- 16^V or more",
                Boundary04AddTermTest::codeTooLarge);
        Tools.test("A code is valid iff 0 <= code < 16^V.", Boundary04AddTermTest::codeInside);
        Tools.test("The following conditions are considered in order", Boundary04AddTermTest::conditionsInOrder);
        Tools.test("coef reduced modulo p into 0..p-1", Boundary04AddTermTest::coefReduced);
        Tools.test("a negative coef is reduced upward to its true residue", Boundary04AddTermTest::coefNegative);
        Tools.test("for every int value including the most negative one", Boundary04AddTermTest::coefMostNegative);
        Tools.test("If c = 0: success, and the polynomial is unchanged.", Boundary04AddTermTest::coefZero);
        Tools.test("its coef becomes (old + c) mod p", Boundary04AddTermTest::sumWrapsAround);
        Tools.test("if that is 0 the term is removed", Boundary04AddTermTest::termRemoved);
        Tools.test("If the polynomial already has 16 terms: refused.", Boundary04AddTermTest::seventeenthTerm);
        Tools.test("If the polynomial already has 16 terms: refused. -- but 3 and 4 come first",
                Boundary04AddTermTest::fullButNoPlaceNeeded);
        Tools.test("Otherwise the term (code, c) is added.", Boundary04AddTermTest::addedAtEveryPlace);
        Tools.test("Refused: answers -1 and changes nothing at all; the results, including the status, are kept.",
                Boundary04AddTermTest::refusedKeepsTheResults);
        Tools.test("Success: the results are cleared", Boundary04AddTermTest::successClears);
        Tools.test("(this happens also in case 3, where the polynomial itself is unchanged)",
                Boundary04AddTermTest::zeroClearsToo);
        Tools.test("the answer is the new term count of that polynomial, 0..16", Boundary04AddTermTest::answers);
        Tools.test("No other input polynomial changes.", Boundary04AddTermTest::othersStay);
        Tools.end();
    }

    /** A polynomial of 16 terms: the coefficients 1..16 at the codes 0, 2, 4 .. 30. */
    private static WuProver full(int target) {
        WuProver x = new WuProver(4, 2);
        for (int i = 0; i < 16; i++) {
            Tools.due("term " + i, x.addTerm(target, i + 1, 2 * i), i + 1);
        }
        return x;
    }

    private static void targets() {
        for (int target = 0; target <= 8; target++) {
            WuProver x = new WuProver(4, 1);
            Tools.due("addTerm(" + target + ", 5, 3)", x.addTerm(target, 5, 3), 1);
            for (int index = 0; index < 8; index++) {
                Tools.due("H_" + index, x.termCoef(WuProver.KIND_HYPOTHESIS, index, 0), index == target ? 5 : -1);
            }
            Tools.due("G", x.termCoef(WuProver.KIND_CONCLUSION, 0, 0), target == 8 ? 5 : -1);
        }
    }

    private static void targetOutside() {
        for (int target : new int[] {-1, -2, -9, LEAST, LEAST + 8, 9, 10, 16, 256, GREATEST}) {
            WuProver x = Tools.inStatus(2);
            Tools.kept("addTerm(" + target + ", 1, 0)", x, () -> x.addTerm(target, 1, 0), -1);
        }
    }

    private static void codeNegative() {
        for (int vars = 1; vars <= 6; vars++) {
            WuProver x = Tools.with(4, vars, "x0", "x0^2 - 1");
            x.prove();
            for (int code : new int[] {-1, -2, -16, -(1 << (4 * vars)), LEAST + 1, LEAST}) {
                Tools.kept("addTerm(0, 1, " + code + ")", x, () -> x.addTerm(0, 1, code), -1);
                Tools.kept("addTerm(8, 1, " + code + ")", x, () -> x.addTerm(8, 1, code), -1);
            }
        }
    }

    private static void codeTooLarge() {
        int[] ends = {16, 256, 4096, 65536, 1048576, 16777216};
        for (int vars = 1; vars <= 6; vars++) {
            WuProver x = Tools.with(4, vars, "x0", "x0^2 - 1");
            x.prove();
            for (int code : new int[] {ends[vars - 1], ends[vars - 1] + 1, 16777216, 1 << 28, 1 << 30, GREATEST}) {
                Tools.kept("addTerm(0, 1, " + code + ")", x, () -> x.addTerm(0, 1, code), -1);
                Tools.kept("addTerm(8, 1, " + code + ")", x, () -> x.addTerm(8, 1, code), -1);
            }
        }
    }

    private static void codeInside() {
        int[] ends = {16, 256, 4096, 65536, 1048576, 16777216};
        for (int vars = 1; vars <= 6; vars++) {
            WuProver x = new WuProver(4, vars);
            Tools.due("the least code", x.addTerm(3, 1, 0), 1);
            Tools.due("the greatest code with V = " + vars, x.addTerm(3, 2, ends[vars - 1] - 1), 2);
            Tools.due("is kept", x.termCode(0, 3, 1), ends[vars - 1] - 1);
            Tools.due("the one before", x.addTerm(3, 3, ends[vars - 1] - 2), 3);
            Tools.due("is kept", x.termCode(0, 3, 1), ends[vars - 1] - 2);
        }
    }

    private static void conditionsInOrder() {
        WuProver x = Tools.inStatus(1);
        // 1 and 2 come before 3: a zero coefficient does not make a wrong call a success.
        Tools.kept("wrong target, coef 0", x, () -> x.addTerm(9, 0, 0), -1);
        Tools.kept("wrong target, coef p", x, () -> x.addTerm(-1, 101, 0), -1);
        Tools.kept("wrong target and code", x, () -> x.addTerm(9, 0, -1), -1);
        Tools.kept("negative code, coef 0", x, () -> x.addTerm(0, 0, -1), -1);
        Tools.kept("code 16^V, coef 0", x, () -> x.addTerm(8, 0, 4096), -1);
        Tools.kept("code 16^V, coef p", x, () -> x.addTerm(7, -101, 4096), -1);
        // 2 comes before 5: a full polynomial refuses a wrong code as any other does.
        WuProver y = full(0);
        Tools.kept("wrong code, full", y, () -> y.addTerm(0, 1, 256), -1);
    }

    private static void coefReduced() {
        for (int index = 0; index < 8; index++) {
            int p = Tools.PRIMES[index];
            stored(index, p - 1, p - 1);
            stored(index, p, 0);
            stored(index, p + 1, 1);
            stored(index, 2 * p - 1, p - 1);
            stored(index, 2 * p, 0);
            stored(index, 2 * p + 1, 1);
        }
        // 2^31 - 1 modulo each prime.
        int[] residues = {1, 1, 2, 1, 33, 695, 1461, 721};
        for (int index = 0; index < 8; index++) {
            stored(index, GREATEST, residues[index]);
        }
    }

    private static void stored(int primeIndex, int coef, int want) {
        WuProver x = new WuProver(primeIndex, 1);
        String call = "addTerm(2, " + coef + ", 4) modulo " + x.prime();
        Tools.due(call, x.addTerm(2, coef, 4), want == 0 ? 0 : 1);
        Tools.due(call + " is stored as", x.termCoef(0, 2, 0), want == 0 ? -1 : want);
    }

    private static void coefNegative() {
        for (int index = 0; index < 8; index++) {
            int p = Tools.PRIMES[index];
            stored(index, -1, p - 1);
            stored(index, 1 - p, 1);
            stored(index, -p, 0);
            stored(index, -p - 1, p - 1);
            stored(index, 1 - 2 * p, 1);
            stored(index, -2 * p, 0);
        }
    }

    private static void coefMostNegative() {
        // -2^31 modulo each prime, and the value above it.
        int[] residues = {0, 1, 2, 5, 67, 313, 8545, 32027};
        for (int index = 0; index < 8; index++) {
            int p = Tools.PRIMES[index];
            stored(index, LEAST, residues[index]);
            stored(index, LEAST + 1, (residues[index] + 1) % p);
            WuProver x = new WuProver(index, 1);
            x.addTerm(0, p - 1, 0);
            Tools.due("p - 1 and the least int", x.addTerm(0, LEAST, 0), residues[index] == 1 ? 0 : 1);
            int sum = (p - 1 + residues[index]) % p;
            Tools.due("their sum", x.termCoef(0, 0, 0), sum == 0 ? -1 : sum);
        }
    }

    private static void coefZero() {
        for (int coef : new int[] {0, 101, -101, 202, 101 * 21262214, -101 * 21262214}) {
            WuProver x = Tools.with(4, 2, "x1^2 - 3", "x1 - x0");
            String before = Tools.inputs(x);
            Tools.due("to a term that is there", x.addTerm(8, coef, 32), 2);
            Tools.due("to one that is not", x.addTerm(8, coef, 16), 2);
            Tools.due("to a zero polynomial", x.addTerm(5, coef, 255), 0);
            Tools.due("the inputs", Tools.inputs(x), before);
        }
    }

    private static void sumWrapsAround() {
        for (int index = 1; index < 8; index++) {
            int p = Tools.PRIMES[index];
            WuProver x = new WuProver(index, 1);
            x.addTerm(4, p - 1, 7);
            Tools.due("p - 1 and p - 1", x.addTerm(4, p - 1, 7), 1);
            Tools.due("are p - 2", x.termCoef(0, 4, 0), p - 2);
            Tools.due("and 1", x.addTerm(4, 1, 7), 1);
            Tools.due("are p - 1", x.termCoef(0, 4, 0), p - 1);
            Tools.due("and 2", x.addTerm(4, 2, 7), 1);
            Tools.due("are 1", x.termCoef(0, 4, 0), 1);
        }
    }

    private static void termRemoved() {
        for (int index = 0; index < 8; index++) {
            int p = Tools.PRIMES[index];
            WuProver x = new WuProver(index, 1);
            for (int code = 0; code < 3; code++) {
                x.addTerm(8, 1, code);
            }
            Tools.due("the middle one goes", x.addTerm(8, p - 1, 1), 2);
            Tools.due("the terms left", Tools.show(x, 1, 0), "1 + 1*x0^2");
            Tools.due("the first goes", x.addTerm(8, -1, 0), 1);
            Tools.due("the term left", Tools.show(x, 1, 0), "1*x0^2");
            Tools.due("the last goes", x.addTerm(8, -1, 2), 0);
            Tools.due("zero is left", Tools.show(x, 1, 0), "0");
            Tools.due("it can come back", x.addTerm(8, 1, 1), 1);
        }
    }

    private static void seventeenthTerm() {
        for (int target = 0; target <= 8; target++) {
            WuProver x = full(target);
            x.prove();
            // Before the first term, between two, and after the last.
            for (int code : new int[] {1, 15, 29, 31, 255}) {
                int at = target;
                Tools.kept("addTerm(" + at + ", 1, " + code + ")", x, () -> x.addTerm(at, 1, code), -1);
                Tools.kept("addTerm(" + at + ", -1, " + code + ")", x, () -> x.addTerm(at, -1, code), -1);
            }
            Tools.due("the count", x.termCount(target == 8 ? 1 : 0, target % 8), 16);
        }
    }

    private static void fullButNoPlaceNeeded() {
        for (int target = 0; target <= 8; target++) {
            WuProver x = full(target);
            int kind = target == 8 ? 1 : 0;
            Tools.due("zero to a new code", x.addTerm(target, 0, 1), 16);
            Tools.due("p to a new code", x.addTerm(target, 101, 255), 16);
            Tools.due("zero to a code that is there", x.addTerm(target, 0, 30), 16);
            Tools.due("one more to the first code", x.addTerm(target, 1, 0), 16);
            Tools.due("is added", x.termCoef(kind, target % 8, 0), 2);
            Tools.due("one more to the last code", x.addTerm(target, 1, 30), 16);
            Tools.due("is added", x.termCoef(kind, target % 8, 15), 17);
            Tools.due("one term goes", x.addTerm(target, -2, 0), 15);
            Tools.due("its place can be taken", x.addTerm(target, 1, 255), 16);
            Tools.due("by one alone", x.addTerm(target, 1, 254), -1);
        }
    }

    private static void addedAtEveryPlace() {
        for (int place = 0; place < 16; place++) {
            // Fifteen terms at odd codes, then one before, between or after them.
            WuProver x = new WuProver(4, 2);
            for (int i = 0; i < 15; i++) {
                x.addTerm(6, 1, 2 * i + 1);
            }
            Tools.due("the sixteenth term", x.addTerm(6, 9, 2 * place), 16);
            for (int j = 0; j < 16; j++) {
                int want = j == place ? 2 * j : j < place ? 2 * j + 1 : 2 * j - 1;
                Tools.due("termCode(0, 6, " + j + ")", x.termCode(0, 6, j), want);
                Tools.due("termCoef(0, 6, " + j + ")", x.termCoef(0, 6, j), j == place ? 9 : 1);
            }
        }
    }

    private static void refusedKeepsTheResults() {
        for (int status = 0; status <= 4; status++) {
            WuProver x = Tools.inStatus(status);
            Tools.kept("wrong target", x, () -> x.addTerm(9, 1, 0), -1);
            Tools.kept("wrong code", x, () -> x.addTerm(0, 1, 4096), -1);
        }
        // The third refusal, a full polynomial, in each status that prove() can answer.
        String[] others = {"x0", "x1", "1", "x0^15*x1"};
        for (int i = 0; i < 4; i++) {
            WuProver x = Tools.with(4, 2, i == 0 ? "" : "x1 + 1", "x1" + Tools.powers(0, 1, 15), others[i]);
            refusedWhenFull(x, i + 1);
        }
    }

    private static void refusedWhenFull(WuProver x, int status) {
        Tools.due("the terms", x.termCount(0, 0), 16);
        Tools.due("prove()", x.prove(), status);
        Tools.kept("a full polynomial", x, () -> x.addTerm(0, 1, 255), -1);
        Tools.due("status()", x.status(), status);
    }

    private static void successClears() {
        // A new term, a changed one and a removed one, in every status and for every target.
        int[][] calls = {{0, 1, 4095}, {0, 1, 256}, {0, -1, 256}, {8, 1, 17}, {7, 3, 0}, {2, 1, 1}};
        for (int status = 0; status <= 4; status++) {
            for (int[] call : calls) {
                cleared(status, call);
            }
        }
    }

    private static void cleared(int status, int[] call) {
        WuProver x = Tools.inStatus(status);
        int answer = x.addTerm(call[0], call[1], call[2]);
        Tools.due("success", answer >= 0 ? 1 : 0, 1);
        Tools.due("the results", Tools.results(x), Tools.clearedResults(3, WuProver.STATUS_IDLE));
        Tools.due("check()", x.check(), WuProver.CHECK_NONE);
    }

    private static void zeroClearsToo() {
        int[][] calls = {{0, 0, 0}, {0, 0, 256}, {8, 101, 256}, {8, -101, 4095}, {5, 0, 0}, {7, 202, 4095}};
        for (int status = 0; status <= 4; status++) {
            for (int[] call : calls) {
                String before = Tools.inputs(Tools.inStatus(status));
                cleared(status, call);
                WuProver x = Tools.inStatus(status);
                x.addTerm(call[0], call[1], call[2]);
                Tools.due("the inputs", Tools.inputs(x), before);
            }
        }
    }

    private static void answers() {
        WuProver x = new WuProver(0, 2);
        Tools.due("the least answer", x.addTerm(1, 2, 0), 0);
        for (int i = 0; i < 16; i++) {
            Tools.due("the answer grows", x.addTerm(1, 1, 16 * i), i + 1);
        }
        for (int i = 15; i >= 0; i--) {
            Tools.due("the answer shrinks", x.addTerm(1, 1, 16 * i), i);
        }
        // It is the count of that polynomial, not of another one.
        x.addTerm(2, 1, 1);
        x.addTerm(2, 1, 2);
        Tools.due("the first of another", x.addTerm(3, 1, 1), 1);
        Tools.due("the third of the one before", x.addTerm(2, 1, 3), 3);
    }

    private static void othersStay() {
        for (int target = 0; target <= 8; target++) {
            WuProver x = new WuProver(4, 2);
            StringBuilder want = new StringBuilder();
            for (int i = 0; i <= 8; i++) {
                x.addTerm(i, i + 1, i);
                want.append(i == target ? "" : "(" + i + ":" + (i + 1) + " class" + (i == 0 ? -1 : 0) + ")");
                want.append(i == target ? "(class-2)" : "");
            }
            // The neighbours stay when the polynomial between them is filled to the last place and emptied again.
            x.addTerm(target, -target - 1, target);
            for (int code = 100; code < 116; code++) {
                x.addTerm(target, 1, code);
            }
            Tools.due("a seventeenth", x.addTerm(target, 1, 116), -1);
            for (int code = 100; code < 116; code++) {
                x.addTerm(target, -1, code);
            }
            Tools.due("the inputs", Tools.inputs(x), want.toString());
        }
    }
}
