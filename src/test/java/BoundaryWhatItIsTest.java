import java.util.regex.Matcher;
import java.util.regex.Pattern;

/** The words of 'What it is', each with a test of its own. */
public final class BoundaryWhatItIsTest {
    private static final int PROVED = WuProver.STATUS_PROVED;
    private static final int NOT_PROVED = WuProver.STATUS_NOT_PROVED;
    private static final int INCONSISTENT = WuProver.STATUS_INCONSISTENT;
    private static final int OVERFLOW = WuProver.STATUS_OVERFLOW;

    public static void main(String[] args) {
        Tools.test("WuProver is a small automatic prover for geometry theorems given in coordinate form.",
                BoundaryWhatItIsTest::theorems);
        Tools.test("It works by Wu's method over the prime field Z_p", BoundaryWhatItIsTest::primeField);
        Tools.test("the hypotheses are turned into a triangular chain by successive pseudo-division",
                BoundaryWhatItIsTest::triangularChain);
        Tools.test("and then the conclusion is pseudo-divided through the chain",
                BoundaryWhatItIsTest::throughTheChain);
        Tools.test("It keeps a certificate that check() expands.", BoundaryWhatItIsTest::certificateIsKept);
        Tools.test("Up to eight hypotheses H_0..H_7 and one conclusion G", BoundaryWhatItIsTest::eightHypotheses);
        Tools.test("for each chain element, the power of its initial used (the multiplier) and the accumulated"
                + " quotient, together with the final remainder", BoundaryWhatItIsTest::certificate);
        Tools.test("The conclusion counts as proved when the remainder is zero.",
                BoundaryWhatItIsTest::remainderIsZero);
        Tools.test("A nonzero constant showing up among the hypotheses means they contradict each other.",
                BoundaryWhatItIsTest::contradictions);
        Tools.test("Every checked value is limited to 16 terms and exponents of at most 15; otherwise prove() ends with"
                + " STATUS_OVERFLOW", BoundaryWhatItIsTest::overflow);
        Tools.test("and check() answers CHECK_TOO_BIG (changing nothing)", BoundaryWhatItIsTest::tooBig);
        constants("Limits: MAX_TERMS = 16, MAX_EXP = 15, HYPOTHESES = 8, TARGET_CONCLUSION = 8.", 4);
        constants("Status codes: STATUS_IDLE = 0, STATUS_PROVED = 1, STATUS_NOT_PROVED = 2, STATUS_INCONSISTENT = 3,"
                + " STATUS_OVERFLOW = 4.", 5);
        constants("Answers of check(): CHECK_NONE = 0, CHECK_OK = 1, CHECK_BAD = 2, CHECK_TOO_BIG = 3.", 4);
        constants("Kinds for selecting a polynomial: KIND_HYPOTHESIS = 0, KIND_CONCLUSION = 1, KIND_CHAIN = 2,"
                + " KIND_QUOTIENT = 3, KIND_REMAINDER = 4.", 5);
        Tools.end();
    }

    /** The corners are (0, 0), (x0, 0), (x0 + x1, x2) and (x1, x2), and the diagonals meet in (x3, x4). */
    private static WuProver parallelogram(int primeIndex, String conclusion) {
        return Tools.with(primeIndex, 5, conclusion, "x2*x3 - x0*x4 - x1*x4", "x2*x3 - x0*x2 + x0*x4 - x1*x4");
    }

    /** The corners are (0, 0), (x0, 0) and (x1, x2), and the altitudes from the first and the last meet in (x3, x4). */
    private static WuProver triangle(int primeIndex, String conclusion) {
        return Tools.with(primeIndex, 5, conclusion, "x3 - x1", "x1*x3 - x0*x3 + x2*x4");
    }

    /** (x1, x2) is on the circle about (0, 0) through (x0, 0). */
    private static WuProver circle(int primeIndex, String conclusion) {
        return Tools.with(primeIndex, 3, conclusion, "x1^2 + x2^2 - x0^2");
    }

    private static void proof(int want, WuProver x) {
        Tools.proved(want, x);
        Tools.due(Tools.inputs(x) + " check()", x.check(), WuProver.CHECK_OK);
    }

    private static void theorems() {
        for (int index = 0; index < 8; index++) {
            // The diagonals halve each other (modulo 2 there are no halves), the third altitude goes through the
            // same point, and the angle at (x1, x2) over the diameter is a right one.
            proof(index > 0 ? PROVED : NOT_PROVED, parallelogram(index, "2*x3 - x0 - x1"));
            proof(PROVED, triangle(index, "x1*x3 - x0*x1 + x2*x4"));
            proof(PROVED, circle(index, "x1^2 - x0^2 + x2^2"));
        }
        for (int index = 1; index < 8; index++) {
            // No theorems: another point of the diagonal, another line through the point, another angle.
            proof(NOT_PROVED, parallelogram(index, "x3 - x0 - x1"));
            proof(NOT_PROVED, triangle(index, "x1*x3 + x2*x4"));
            proof(NOT_PROVED, circle(index, "x1^2 - x0^2 - x2^2"));
        }
    }

    private static void primeField() {
        // Each number is zero modulo its own prime alone.
        for (int index = 0; index < 8; index++) {
            for (int other = 0; other < 8; other++) {
                proof(index == other ? PROVED : NOT_PROVED, Tools.with(index, 1, Tools.PRIMES[other] + "*x0"));
            }
        }
        // x1 = x0 + 1 gives x1^p = x0^p + 1 modulo p, and not modulo another prime.
        for (int index = 0; index < 8; index++) {
            for (int other = 0; other < 3; other++) {
                int p = Tools.PRIMES[other];
                String power = "x1^" + p + " - x0^" + p + " - 1";
                proof(index == other ? PROVED : NOT_PROVED, Tools.with(index, 2, power, "x1 - x0 - 1"));
            }
        }
    }

    private static void triangularChain() {
        WuProver x = parallelogram(4, "2*x3 - x0 - x1");
        proof(PROVED, x);
        Tools.due("T_4", Tools.chain(x, 4), "1*x2*x3 + 100*x0*x4 + 100*x1*x4");
        Tools.due("T_3", Tools.chain(x, 3), "1*x0^2*x2 + 1*x0*x1*x2 + 99*x0*x2*x3");
        Tools.due("chainSize()", x.chainSize(), 2);
        // One division after the other: x2 from the first two, then x1 from what is left and the third, then x0.
        x = Tools.with(4, 3, "", "x2 - x1", "x2 - x0", "x1^2 - 4");
        proof(PROVED, x);
        Tools.due("T_2", Tools.chain(x, 2), "100*x1 + 1*x2");
        Tools.due("T_1", Tools.chain(x, 1), "100*x0 + 1*x1");
        Tools.due("T_0", Tools.chain(x, 0), "97 + 1*x0^2");
        for (int v = 0; v < 3; v++) {
            Tools.due("classOf(KIND_CHAIN, " + v + ")", x.classOf(WuProver.KIND_CHAIN, v), v);
        }
    }

    private static void throughTheChain() {
        // x4 becomes x3 and so on down to 3.
        WuProver x = Tools.with(4, 5, "x4", "x4 - x3", "x3 - x2", "x2 - x1", "x1 - x0", "x0 - 3");
        proof(NOT_PROVED, x);
        Tools.due("R", Tools.remainder(x), "3");
        for (int v = 0; v < 5; v++) {
            Tools.due("Q_" + v, Tools.quotient(x, v), "1");
            Tools.due("multiplier(" + v + ")", x.multiplier(v), 1);
        }
    }

    private static void certificateIsKept() {
        WuProver x = triangle(4, "x1*x3 - x0*x1 + x2*x4");
        proof(PROVED, x);
        String before = Tools.everything(x);
        for (int i = 0; i < 3; i++) {
            Tools.due("check()", x.check(), WuProver.CHECK_OK);
            Tools.due("the certificate", Tools.everything(x), before);
        }
        x.clearPoly(7);
        Tools.due("check() without a certificate", x.check(), WuProver.CHECK_NONE);
    }

    private static void eightHypotheses() {
        // x0 = 2 and x1 = 3 follow from two hypotheses each, x2 .. x5 from one: none of the eight can be left out.
        String[] hypotheses = {"x0^2 - 2*x0", "x1^2 - 3*x1", "x2 - 4", "x3 - 5", "x4 - 6", "x5 - 7",
            "x0^2 - 4", "x1^2 - 9"};
        for (int without = -1; without < 8; without++) {
            WuProver x = Tools.with(7, 6, "x0 + x1 + x2 + x3 + x4 + x5 - 27", hypotheses);
            if (without >= 0) {
                x.clearPoly(without);
            }
            Tools.proved(without < 0 ? PROVED : NOT_PROVED, x);
            Tools.due("chainSize()", x.chainSize(), without >= 2 && without < 6 ? 5 : 6);
        }
    }

    private static void certificate() {
        WuProver x = triangle(4, "x1*x3 - x0*x1 + x2*x4");
        proof(PROVED, x);
        Tools.due("multiplier(4)", x.multiplier(4), 1);
        Tools.due("Q_4", Tools.quotient(x, 4), "1*x2");
        Tools.due("multiplier(3)", x.multiplier(3), 1);
        Tools.due("Q_3", Tools.quotient(x, 3), "1*x0*x2");
        for (int v = 0; v < 3; v++) {
            Tools.due("multiplier(" + v + ")", x.multiplier(v), -1);
            Tools.due("Q_" + v, Tools.quotient(x, v), "0");
        }
        // Accumulated: the initial 2 of T_0 comes into Q_1 after x1 is gone, once for each power.
        x = Tools.with(4, 2, "x0*x1 + x0^2 + 5", "3*x1 - 1", "2*x0 - 1");
        proof(NOT_PROVED, x);
        Tools.due("multiplier(1)", x.multiplier(1), 1);
        Tools.due("multiplier(0)", x.multiplier(0), 2);
        Tools.due("Q_1", Tools.quotient(x, 1), "4*x0");
        Tools.due("Q_0", Tools.quotient(x, 0), "5 + 6*x0");
        Tools.due("R", Tools.remainder(x), "65");
    }

    private static void remainderIsZero() {
        String[] conclusions = {"", "x0 - 1", "x0^15 - 1", "x1*x0 - x1", "1", "x0", "x0^15 + 1", "x1"};
        for (int i = 0; i < conclusions.length; i++) {
            WuProver x = Tools.with(4, 2, conclusions[i], "x0 - 1");
            proof(i < 4 ? PROVED : NOT_PROVED, x);
            Tools.due(conclusions[i] + " leaves", x.termCount(WuProver.KIND_REMAINDER, 0), i < 4 ? 0 : 1);
        }
    }

    private static void contradictions() {
        // The constant is there from the start, comes from one division, or from several.
        Tools.proved(INCONSISTENT, Tools.with(4, 2, "", "5"));
        Tools.proved(INCONSISTENT, Tools.with(4, 2, "", "x0 - 1", "x0 - 2"));
        Tools.proved(INCONSISTENT, Tools.with(4, 2, "", "x1 - x0", "x1 - 1", "x0 - 2"));
        // Points with x1 = 0 and x1 = x0 are the same where x0 is 0, which only the third one rules out.
        Tools.proved(PROVED, Tools.with(4, 2, "", "x1", "x1 - x0"));
        Tools.proved(INCONSISTENT, Tools.with(4, 2, "", "x1", "x1 - x0", "x0 - 1"));
        // 1 and 8 contradict each other but modulo 7.
        for (int index = 0; index < 8; index++) {
            Tools.proved(index == 3 ? PROVED : INCONSISTENT, Tools.with(index, 1, "", "x0 - 1", "x0 - 8"));
        }
    }

    private static void overflow() {
        for (int e = 14; e <= 15; e++) {
            int reduced = e < 15 ? NOT_PROVED : OVERFLOW;
            // In the chain x1 goes out of the second hypothesis, and x0^(e+1) comes in; in the reduction likewise.
            Tools.proved(e < 15 ? PROVED : OVERFLOW, Tools.with(4, 2, "", "x1 - x0^" + e, "x0*x1 - 1"));
            Tools.proved(reduced, Tools.with(4, 2, "x0*x1", "x1 - x0^" + e));
            // The remainder has fifteen powers of x0, and one of x1 or two.
            String ofX1 = Tools.powers(1, 1, e - 13);
            Tools.proved(reduced, Tools.with(4, 3, "x2" + ofX1, "x2" + Tools.powers(0, 0, 14)));
        }
    }

    private static void tooBig() {
        for (int e = 14; e <= 15; e++) {
            WuProver x = Tools.with(4, 2, "x0^" + e + "*x1", "x0*x1 - 1");
            Tools.proved(NOT_PROVED, x);
            Tools.kept("check()", x, x::check, e < 15 ? WuProver.CHECK_OK : WuProver.CHECK_TOO_BIG);
        }
    }

    /** The names and values are read out of the words, and the values that stand in the class by those names. */
    private static void constants(String words, int count) {
        Tools.test(words, () -> {
            Matcher named = Pattern.compile("([A-Z_]+) = ([0-9]+)").matcher(words);
            int found = 0;
            while (named.find()) {
                Tools.due(named.group(1), valueOf(named.group(1)), Integer.parseInt(named.group(2)));
                found++;
            }
            Tools.due("constants", found, count);
        });
    }

    private static int valueOf(String constant) {
        try {
            return WuProver.class.getField(constant).getInt(null);
        } catch (ReflectiveOperationException failure) {
            return -1;
        }
    }
}
