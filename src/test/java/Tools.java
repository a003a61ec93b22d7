import java.util.function.IntSupplier;

/** What the tests share: the tally of answers, polynomials as text, and a picture of the state. */
final class Tools {
    static final int[] PRIMES = {2, 3, 5, 7, 101, 1009, 10007, 32749};

    private static int wrong = 0;
    private static int right = 0;
    private static int sentences = 0;

    private Tools() {
    }

    static void due(String call, long got, long want) {
        due(call, Long.toString(got), Long.toString(want));
    }

    static void due(String call, String got, String want) {
        if (got.equals(want)) {
            right++;
            return;
        }
        wrong++;
        System.out.println(call + " answered " + got + ", due is " + want);
    }

    /** A test of its own for some words of the document: the calls that would answer wrongly if they did not hold. */
    static void test(String words, Runnable calls) {
        int wrongBefore = wrong;
        int rightBefore = right;
        try {
            calls.run();
        } catch (RuntimeException failure) {
            due("a call", failure.toString(), "an answer");
        }
        boolean holds = wrong == wrongBefore && right > rightBefore;
        wrong += holds || wrong > wrongBefore ? 0 : 1;
        sentences++;
        System.out.println((holds ? "holds: " : "DOES NOT HOLD: ") + words);
    }

    /** Ends the test: exit code 1 if an answer was wrong or if nothing was asked at all. */
    static void end() {
        System.out.println((sentences == 0 ? "" : sentences + " sentences, ")
                + right + " answers as due, " + wrong + " not");
        if (wrong != 0 || right == 0) {
            System.exit(1);
        }
    }

    /** A new object over Z_p with these hypotheses, in order, and this conclusion. */
    static WuProver with(int primeIndex, int vars, String conclusion, String... hypotheses) {
        WuProver x = new WuProver(primeIndex, vars);
        for (int i = 0; i < hypotheses.length; i++) {
            enter(x, i, hypotheses[i]);
        }
        enter(x, 8, conclusion);
        return x;
    }

    /** An object of three variables modulo 101 with this status; with 1 and 2 it has a chain and a certificate. */
    static WuProver inStatus(int status) {
        String[] conclusions = {"x2", "x0*x2 - 1", "x2", "x2", "x0^15*x2"};
        WuProver x = with(4, 3, conclusions[status], "x2 - x1", "x0*x1 - 1", status == 3 ? "1" : "");
        if (status != 0) {
            due("prove()", x.prove(), status);
        }
        due("status()", x.status(), status);
        return x;
    }

    /** Proves, and sees that the inputs stay and that a stop leaves no results. */
    static WuProver proved(int want, WuProver x) {
        String inputs = inputs(x);
        due(inputs + " prove()", x.prove(), want);
        due(inputs + " status()", x.status(), want);
        due(inputs + " then the inputs", inputs(x), inputs);
        if (want == WuProver.STATUS_INCONSISTENT || want == WuProver.STATUS_OVERFLOW) {
            due(inputs + " then the results", results(x), clearedResults(x.varCount(), want));
        }
        return x;
    }

    /** A call that changes nothing. */
    static void kept(String call, WuProver x, IntSupplier answer, int want) {
        String before = whole(x);
        due(call, answer.getAsInt(), want);
        due(call + " then the state", whole(x), before);
    }

    /** The sum of x_v^e for e from first to last, as text that can follow another term: " + x0^2 + x0^3". */
    static String powers(int v, int first, int last) {
        StringBuilder text = new StringBuilder();
        for (int e = first; e <= last; e++) {
            text.append(" + x").append(v).append('^').append(e);
        }
        return text.toString();
    }

    /** Adds a polynomial such as "x1^2*x0 - 3*x2 + 1" to an input; answers the last term count. */
    static int enter(WuProver x, int target, String text) {
        int answer = x.termCount(target == 8 ? 1 : 0, target == 8 ? 0 : target);
        for (String term : text.replace(" ", "").replace("-", "+-").split("\\+")) {
            if (!term.isEmpty()) {
                answer = enterTerm(x, target, term);
            }
        }
        return answer;
    }

    private static int enterTerm(WuProver x, int target, String term) {
        int coef = term.startsWith("-") ? -1 : 1;
        int code = 0;
        for (String factor : term.replace("-", "").split("\\*")) {
            if (!factor.startsWith("x")) {
                coef *= Integer.parseInt(factor);
                continue;
            }
            String[] parts = factor.substring(1).split("\\^");
            int exponent = parts.length == 1 ? 1 : Integer.parseInt(parts[1]);
            code += exponent << (4 * Integer.parseInt(parts[0]));
        }
        return x.addTerm(target, coef, code);
    }

    /** A polynomial as text, terms in the order of the getters: "100*x0 + 2*x1^2"; zero is "0". */
    static String show(WuProver x, int kind, int index) {
        StringBuilder text = new StringBuilder();
        for (int j = 0; j < x.termCount(kind, index); j++) {
            text.append(j == 0 ? "" : " + ").append(x.termCoef(kind, index, j));
            int code = x.termCode(kind, index, j);
            for (int v = 0; v < 6; v++) {
                int exponent = (code >> (4 * v)) & 15;
                if (exponent > 0) {
                    text.append("*x").append(v).append(exponent == 1 ? "" : "^" + exponent);
                }
            }
        }
        return text.length() == 0 ? "0" : text.toString();
    }

    static String chain(WuProver x, int v) {
        return show(x, WuProver.KIND_CHAIN, v);
    }

    static String quotient(WuProver x, int v) {
        return show(x, WuProver.KIND_QUOTIENT, v);
    }

    static String remainder(WuProver x) {
        return show(x, WuProver.KIND_REMAINDER, 0);
    }

    /** The inputs alone, as the getters tell them. */
    static String inputs(WuProver x) {
        StringBuilder text = new StringBuilder();
        for (int i = 0; i < 8; i++) {
            picture(text, x, WuProver.KIND_HYPOTHESIS, i);
        }
        picture(text, x, WuProver.KIND_CONCLUSION, 0);
        return text.toString();
    }

    /** The results alone, without check(). */
    static String results(WuProver x) {
        StringBuilder text = new StringBuilder();
        for (int v = 0; v < x.varCount(); v++) {
            picture(text, x, WuProver.KIND_CHAIN, v);
        }
        for (int v = 0; v < x.varCount(); v++) {
            picture(text, x, WuProver.KIND_QUOTIENT, v);
        }
        picture(text, x, WuProver.KIND_REMAINDER, 0);
        for (int v = 0; v < x.varCount(); v++) {
            text.append("k").append(x.multiplier(v)).append(' ');
        }
        return text.append("size").append(x.chainSize()).append(" status").append(x.status()).toString();
    }

    /** All that can be seen of an object without check(). */
    static String everything(WuProver x) {
        return "p" + x.prime() + " V" + x.varCount() + " " + inputs(x) + results(x);
    }

    /** All that can be seen of an object. */
    static String whole(WuProver x) {
        return everything(x) + " check" + x.check();
    }

    /** The results() of an object with V variables whose results are cleared, with this status. */
    static String clearedResults(int vars, int status) {
        return "(class-2)".repeat(2 * vars + 1) + "k-1 ".repeat(vars) + "size0 status" + status;
    }

    private static void picture(StringBuilder text, WuProver x, int kind, int index) {
        text.append('(');
        for (int j = 0; j < x.termCount(kind, index); j++) {
            text.append(x.termCode(kind, index, j)).append(':').append(x.termCoef(kind, index, j)).append(' ');
        }
        text.append("class").append(x.classOf(kind, index)).append(')');
    }
}
