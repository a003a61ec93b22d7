/** Promise 12: check() expands the certificate and changes nothing. */
public final class Promise12CheckTest {
    public static void main(String[] args) {
        none();
        // Each row: conclusion and hypotheses, then what prove() and check() answer.
        row(1, 1, "");
        row(2, 1, "x0^3 + 5");
        row(1, 1, "x1^2 - x0^2", "x1 - x0");
        row(2, 1, "x2*x1", "x2 - x1", "3*x0*x1 - 1");
        row(2, 1, "x2^2", "x2 - x1 - x0", "x1 - 1");
        row(1, 1, "x2 - x0", "x2 - x1", "x1 - x0");
        // The left side alone is limited at 15 and 16.
        row(2, 1, "x0^14*x1", "x0*x1 - 1");
        row(2, 3, "x0^15*x1", "x0*x1 - 1");
        // The left side at two rounds: x0^2 * x0^13, then x0^2 * x0^14.
        row(1, 1, "x0^13*x1^2", "x0*x1");
        row(1, 3, "x0^14*x1^2", "x0*x1");
        // The left side is small; R + Q_2*T_2 has x0^16, which only Q_1*T_1 takes away.
        row(2, 3, "x2*x1", "x2 - x0^15", "x0*x1 - 1");
        row(2, 1, "x2*x1", "x2 - x0^14", "x0*x1 - 1");
        tooManyTerms();
        Tools.end();
    }

    private static void none() {
        WuProver x = new WuProver(4, 3);
        unchanged(x, WuProver.CHECK_NONE);
        Tools.enter(x, 0, "x1 - x0");
        Tools.enter(x, 8, "x1 - x0");
        unchanged(x, WuProver.CHECK_NONE);
        x.prove();
        unchanged(x, WuProver.CHECK_OK);
        x.addTerm(0, 0, 0);
        unchanged(x, WuProver.CHECK_NONE);
        x.prove();
        x.clearPoly(3);
        unchanged(x, WuProver.CHECK_NONE);
        Tools.enter(x, 1, "4");
        Tools.due("prove()", x.prove(), WuProver.STATUS_INCONSISTENT);
        unchanged(x, WuProver.CHECK_NONE);
        x.clearPoly(1);
        Tools.enter(x, 1, "x0^15*x1");
        Tools.due("prove()", x.prove(), WuProver.STATUS_OVERFLOW);
        unchanged(x, WuProver.CHECK_NONE);
        x.clearPoly(1);
        x.prove();
        Tools.due("a refused call", x.addTerm(0, 1, -1), -1);
        unchanged(x, WuProver.CHECK_OK);
    }

    private static void row(int status, int check, String conclusion, String... hypotheses) {
        for (int primeIndex = 4; primeIndex < 8; primeIndex++) {
            WuProver x = new WuProver(primeIndex, 3);
            for (int i = 0; i < hypotheses.length; i++) {
                Tools.enter(x, i, hypotheses[i]);
            }
            Tools.enter(x, 8, conclusion);
            Tools.due("prove() of " + conclusion, x.prove(), status);
            unchanged(x, check);
        }
    }

    /** Asks twice: the answer is the same and the state stays. */
    private static void unchanged(WuProver x, int want) {
        String before = Tools.everything(x);
        Tools.due(before + " check()", x.check(), want);
        Tools.due("state after check()", Tools.everything(x), before);
        Tools.due(before + " check() again", x.check(), want);
    }

    private static void tooManyTerms() {
        // The initial has eight terms, so the left side has 8 * 2 or 8 * 3; prove() sees less of both.
        StringBuilder initial = new StringBuilder();
        for (int e = 0; e < 8; e++) {
            initial.append(" + x0^").append(e).append("*x2");
        }
        leftSide(WuProver.CHECK_OK, initial.toString(), "x2 + x1");
        leftSide(WuProver.CHECK_TOO_BIG, initial.toString(), "x1^2*x2 + x1*x2 + x2");
        passingLeftSide();
    }

    private static void passingLeftSide() {
        // Modulo 2, times 1 + x0 the conclusion has 18 terms, times (1 + x0)^2 = 1 + x0^2 it has four;
        // the right side is never oversized.
        WuProver x = new WuProver(0, 3);
        Tools.enter(x, 0, "x2 + x0*x2");
        Tools.enter(x, 1, "x1 + x0*x1");
        Tools.enter(x, 8, "x2 + x0^2*x2 + x0^4*x2 + x0^6*x2 + x0^8*x2 + x1 + x0^2*x1 + x0^4*x1 + x0^6*x1");
        Tools.due("prove()", x.prove(), WuProver.STATUS_PROVED);
        Tools.due("multiplier(2)", x.multiplier(2), 1);
        Tools.due("multiplier(1)", x.multiplier(1), 1);
        unchanged(x, WuProver.CHECK_TOO_BIG);
        // One term less: 16 terms, then four.
        x.addTerm(8, 1, 8 + 256);
        Tools.due("prove()", x.prove(), WuProver.STATUS_PROVED);
        unchanged(x, WuProver.CHECK_OK);
    }

    private static void leftSide(int want, String hypothesis, String conclusion) {
        WuProver x = new WuProver(4, 3);
        Tools.enter(x, 0, hypothesis);
        Tools.enter(x, 8, conclusion);
        x.prove();
        Tools.due("multiplier(2)", x.multiplier(2), 1);
        unchanged(x, want);
    }
}
