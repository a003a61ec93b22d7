/** The boundary cases of promise 12, each under the words that name it. */
public final class Boundary12CheckTest {
    private static final int PROVED = WuProver.STATUS_PROVED;
    private static final int NOT_PROVED = WuProver.STATUS_NOT_PROVED;
    private static final int NONE = WuProver.CHECK_NONE;
    private static final int OK = WuProver.CHECK_OK;
    private static final int TOO_BIG = WuProver.CHECK_TOO_BIG;

    public static void main(String[] args) {
        Tools.test("check() expands the certificate and changes nothing.", Boundary12CheckTest::changesNothing);
        Tools.test("If the status is neither STATUS_PROVED nor STATUS_NOT_PROVED, it answers CHECK_NONE.",
                Boundary12CheckTest::none);
        Tools.test("for v = V-1 down to 0 with T_v nonzero", Boundary12CheckTest::everyClass);
        Tools.test("k_v times L := initial(T_v) * L, each checked. -- exponents of 15 and 16",
                Boundary12CheckTest::leftExponents);
        Tools.test("k_v times L := initial(T_v) * L, each checked. -- 16 and 17 terms", Boundary12CheckTest::leftTerms);
        Tools.test("k_v times L := initial(T_v) * L, each checked. -- oversized the first time alone",
                Boundary12CheckTest::leftOnTheWay);
        Tools.test("k_v times L := initial(T_v) * L, each checked. -- not once where k_v is 0",
                Boundary12CheckTest::leftNotOnce);
        Tools.test("S := S + Q_v * T_v, each checked. -- exponents of 15 and 16", Boundary12CheckTest::rightExponents);
        Tools.test("S := S + Q_v * T_v, each checked. -- 16 and 17 terms", Boundary12CheckTest::rightTerms);
        Tools.test("The first oversized checked value answers CHECK_TOO_BIG. -- and changes nothing",
                Boundary12CheckTest::tooBigChangesNothing);
        Tools.test("Else it answers CHECK_OK if L equals S", Boundary12CheckTest::equal);
        Tools.test("check() answers CHECK_OK or CHECK_TOO_BIG and never CHECK_BAD", Boundary12CheckTest::neverBad);
        Tools.test("all as read through termCount, termCode, termCoef and multiplier",
                Boundary12CheckTest::identityBeyondTheLimits);
        Tools.test("Whenever status() answers STATUS_PROVED, termCount(KIND_REMAINDER, 0) answers 0",
                Boundary12CheckTest::nothingLeft);
        Tools.end();
    }

    private static WuProver checked(int status, int want, WuProver x) {
        Tools.proved(status, x);
        String before = Tools.everything(x);
        Tools.due(before + " check()", x.check(), want);
        Tools.due("the state after check()", Tools.everything(x), before);
        Tools.due(before + " the identity", Certificate.holds(x) ? 1 : 0, 1);
        return x;
    }

    private static void changesNothing() {
        int[] answers = {NONE, OK, OK, NONE, NONE};
        for (int status = 0; status <= 4; status++) {
            WuProver x = Tools.inStatus(status);
            String before = Tools.everything(x);
            Tools.due("check() in status " + status, x.check(), answers[status]);
            Tools.due("the state", Tools.everything(x), before);
            Tools.due("check() again", x.check(), answers[status]);
            Tools.due("prove() after it", x.prove(), status == 0 ? NOT_PROVED : status);
            // Between two proofs, a check leaves nothing behind that the second one could meet.
            String second = Tools.everything(x);
            x.check();
            x.prove();
            Tools.due("the state after another proof", Tools.everything(x), second);
        }
    }

    private static void none() {
        Tools.due("on a fresh object", new WuProver(4, 3).check(), NONE);
        Tools.due("before prove()", Tools.inStatus(0).check(), NONE);
        Tools.due("after a contradiction", Tools.inStatus(3).check(), NONE);
        Tools.due("after an overflow", Tools.inStatus(4).check(), NONE);
        for (int status = 1; status <= 2; status++) {
            WuProver x = Tools.inStatus(status);
            x.addTerm(0, 0, 0);
            Tools.due("after addTerm()", x.check(), NONE);
            x = Tools.inStatus(status);
            x.clearPoly(7);
            Tools.due("after clearPoly()", x.check(), NONE);
            x = Tools.inStatus(status);
            x.addTerm(9, 1, 0);
            Tools.due("after a refused call", x.check(), OK);
        }
    }

    private static void everyClass() {
        // Every class has an initial other than 1, a multiplier and a quotient, and there is a remainder.
        for (int vars = 1; vars <= 6; vars++) {
            WuProver x = new WuProver(4, vars);
            for (int v = 0; v < vars; v++) {
                Tools.enter(x, v, (v + 2) + "*x" + v + " - 1");
                Tools.enter(x, 8, "x" + v + "^2");
            }
            checked(NOT_PROVED, OK, x);
            for (int v = 0; v < vars; v++) {
                Tools.due("multiplier(" + v + ")", x.multiplier(v), 2);
                Tools.due("Q_" + v, x.termCount(WuProver.KIND_QUOTIENT, v), 2);
            }
            Tools.due("R", x.termCount(WuProver.KIND_REMAINDER, 0), 1);
        }
    }

    private static void leftExponents() {
        for (int e = 0; e <= 15; e++) {
            // L is x0^(e+1)*x1; the sums are not larger.
            checked(NOT_PROVED, e < 15 ? OK : TOO_BIG, Tools.with(4, 2, "x0^" + e + "*x1", "x0*x1 - 1"));
            // L is x0^(e+k), up to x0^30.
            checked(PROVED, e == 0 ? OK : TOO_BIG, Tools.with(4, 2, "x0^" + e + "*x1", "x0^15*x1"));
        }
        // Fifteen times: x0^15, and x0^16 with one more from the conclusion.
        checked(PROVED, OK, Tools.with(4, 2, "x1^15", "x0*x1"));
        checked(PROVED, TOO_BIG, Tools.with(4, 2, "x0*x1^15", "x0*x1"));
    }

    private static void leftTerms() {
        // The initial has eight terms, and the conclusion two or three, one of which stays in the remainder.
        StringBuilder divisor = new StringBuilder();
        for (int e = 0; e < 8; e++) {
            divisor.append(" + x0^").append(e).append("*x2");
        }
        checked(NOT_PROVED, OK, Tools.with(4, 3, "x2 + x1", divisor.toString()));
        checked(NOT_PROVED, TOO_BIG, Tools.with(4, 3, "x1^2*x2 + x2 + x1", divisor.toString()));
        // 8 + 8 terms, then 8 + 9.
        checked(PROVED, OK, Tools.with(4, 3, "x2 + x1*x2", divisor.toString()));
        checked(PROVED, TOO_BIG, Tools.with(4, 3, "x2 + x1*x2 + x0*x1*x2", divisor.toString()));
    }

    private static void leftOnTheWay() {
        // Modulo 2, times 1 + x0 this has 18 terms, and times (1 + x0)^2 = 1 + x0^2 four; with x2*x2 both times.
        String nine = "x2^2 + x0^2*x2^2 + x0^4*x2^2 + x0^6*x2^2 + x0^8*x2^2"
                + " + x1^2 + x0^2*x1^2 + x0^4*x1^2 + x0^6*x1^2";
        WuProver x = checked(NOT_PROVED, TOO_BIG, Tools.with(0, 3, nine, "x2 + x0*x2"));
        Tools.due("multiplier(2)", x.multiplier(2), 2);
        // Eight terms, then 16, then four.
        Tools.enter(x, 8, "x0^6*x1^2");
        checked(NOT_PROVED, OK, x);
        Tools.due("multiplier(2)", x.multiplier(2), 2);
    }

    private static void leftNotOnce() {
        // x0^15 is the initial and in the conclusion as well: one product would be oversized.
        WuProver x = checked(NOT_PROVED, OK, Tools.with(4, 2, "x0^15*x1", "x0^15*x1^2 - 1"));
        Tools.due("multiplier(1)", x.multiplier(1), 0);
        // An empty chain: L is G and S is R.
        checked(NOT_PROVED, OK, Tools.with(4, 2, "x0^15*x1^15" + Tools.powers(0, 1, 15)));
        // A gap in the chain, whose k_v is -1.
        checked(NOT_PROVED, OK, Tools.with(4, 3, "x2*x1*x0", "x2 - 1", "x0 - 1"));
    }

    private static void rightExponents() {
        // L is x0*x1*x2; R + Q_2*T_2 has x0^(e+1)*x1, which Q_1*T_1 takes away again.
        for (int e = 13; e <= 15; e++) {
            String divisor = "x2 - x0^" + e;
            checked(NOT_PROVED, e < 15 ? OK : TOO_BIG, Tools.with(4, 3, "x1*x2", divisor, "x0*x1 - 1"));
        }
    }

    private static void rightTerms() {
        // L is G. R + Q_2*T_2 has x2, x1^2 and 1, each times a(x0), and what else is in G; Q_1*T_1 takes x1^2 away.
        String five = "x2 + x0*x2 + x0^2*x2 + x0^3*x2 + x0^4*x2";
        checked(NOT_PROVED, OK, Tools.with(4, 3, five, "x2 - x1^2", "x1 - 2"));
        checked(NOT_PROVED, OK, Tools.with(4, 3, five + " + x0^9", "x2 - x1^2", "x1 - 2"));
        checked(NOT_PROVED, TOO_BIG, Tools.with(4, 3, five + " + x0^9 + x0^10", "x2 - x1^2", "x1 - 2"));
        checked(NOT_PROVED, TOO_BIG, Tools.with(4, 3, five + " + x0^5*x2", "x2 - x1^2", "x1 - 2"));
    }

    private static void tooBigChangesNothing() {
        // The left side, then the right side.
        WuProver[] objects = {Tools.with(4, 3, "x0^15*x1", "x0*x1 - 1"),
            Tools.with(4, 3, "x1*x2", "x2 - x0^15", "x0*x1 - 1")};
        for (WuProver x : objects) {
            Tools.proved(NOT_PROVED, x);
            Tools.kept("check()", x, x::check, TOO_BIG);
            Tools.due("status()", x.status(), NOT_PROVED);
            String before = Tools.everything(x);
            x.prove();
            Tools.due("another proof", Tools.everything(x), before);
        }
    }

    private static void equal() {
        // Zero on both sides.
        checked(PROVED, OK, new WuProver(4, 6));
        checked(PROVED, OK, Tools.with(4, 2, "", "x0^15*x1^15", "x0"));
        // Sixteen terms on both sides, with a remainder and without.
        checked(NOT_PROVED, OK, Tools.with(4, 2, "1" + Tools.powers(0, 1, 15)));
        checked(PROVED, OK, Tools.with(4, 2, "x1" + Tools.powers(0, 1, 15), "x1" + Tools.powers(0, 1, 15)));
        // Exponents of 15 on both sides.
        checked(PROVED, OK, Tools.with(4, 6, "x5^15*x4^15*x3^15*x2^15*x1^15*x0^15", "x5^15"));
        // Every prime, and coefficients that have to be reduced.
        for (int index = 0; index < 8; index++) {
            checked(NOT_PROVED, OK, Tools.with(index, 2, "x1^3 - x0^2 - 1", "x1 - x0 - 1"));
        }
    }

    private static void neverBad() {
        // All conclusions of two terms with small exponents through all chains of this form.
        for (int code = 0; code < 4096; code++) {
            WuProver x = new WuProver(code % 8, 3);
            x.addTerm(0, 2 + code % 3, 256 + (code & 3));
            x.addTerm(0, -1, 16 * (code >> 2 & 3));
            x.addTerm(1, 1, 16 + (code >> 4 & 3));
            x.addTerm(1, 1, code >> 6 & 3);
            x.addTerm(8, 1, 256 * (code >> 8 & 3) + 17);
            x.addTerm(8, 1, 16 * (code >> 10 & 3) + 512);
            int status = x.prove();
            int check = x.check();
            boolean stands = status == PROVED || status == NOT_PROVED;
            boolean fine = stands ? (check == OK || check == TOO_BIG) && Certificate.holds(x) : check == NONE;
            Tools.due(Tools.inputs(x) + " check() " + check, fine ? 1 : 0, 1);
        }
    }

    private static void identityBeyondTheLimits() {
        // Where check() answers CHECK_TOO_BIG the identity holds as well: with x0^16 and with x0^30 on both sides,
        checked(NOT_PROVED, OK, Tools.with(4, 2, "x1^7", "x0^2*x1 - 1"));
        checked(NOT_PROVED, TOO_BIG, Tools.with(4, 2, "x1^8", "x0^2*x1 - 1"));
        checked(PROVED, TOO_BIG, Tools.with(4, 2, "x0^15*x1", "x0^15*x1"));
        // and with 16 * 16 terms on both sides.
        StringBuilder conclusion = new StringBuilder();
        StringBuilder divisor = new StringBuilder();
        for (int e = 0; e < 16; e++) {
            conclusion.append(" + ").append(e + 1).append("*x1^").append(e).append("*x2");
            divisor.append(" + ").append(e + 2).append("*x0^").append(e).append("*x2");
        }
        checked(PROVED, TOO_BIG, Tools.with(7, 3, conclusion.toString(), divisor.toString()));
    }

    private static void nothingLeft() {
        Tools.due("a proof", Tools.inStatus(1).termCount(WuProver.KIND_REMAINDER, 0), 0);
        Tools.due("no proof", Tools.inStatus(2).termCount(WuProver.KIND_REMAINDER, 0), 1);
        // A proof after a run that left sixteen terms.
        WuProver x = Tools.with(4, 2, "1" + Tools.powers(0, 1, 15));
        Tools.proved(NOT_PROVED, x);
        Tools.due("what is left", x.termCount(WuProver.KIND_REMAINDER, 0), 16);
        x.clearPoly(8);
        checked(PROVED, OK, x);
        Tools.due("what is left", x.termCount(WuProver.KIND_REMAINDER, 0), 0);
    }
}
