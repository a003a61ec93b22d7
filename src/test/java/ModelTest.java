/**
 * Many runs of calls on WuProver and on Model side by side: every answer and the whole state
 * after every call are the same. The runs are made by a fixed sequence, the same every time.
 */
public final class ModelTest {
    private static final int RUNS = 20000;

    private static long seed = 20261115L;
    private static final int[] statuses = new int[5];
    private static final int[] checks = new int[4];
    private static int longChains = 0;
    private static int rounds = 0;
    private static int wideInitials = 0;

    private static int below(int bound) {
        seed = seed * 6364136223846793005L + 1442695040888963407L;
        return (int) ((seed >>> 33) % bound);
    }

    public static void main(String[] args) {
        for (int run = 0; run < RUNS; run++) {
            oneRun(run);
        }
        for (int status = 1; status <= 4; status++) {
            Tools.due("enough proofs end with status " + status, statuses[status] > 300 ? 1 : 0, 1);
        }
        Tools.due("no check() is bad", checks[2], 0);
        Tools.due("enough checks are fine", checks[1] > 300 ? 1 : 0, 1);
        Tools.due("enough checks are too big", checks[3] > 100 ? 1 : 0, 1);
        Tools.due("enough chains have three elements or more", longChains > 300 ? 1 : 0, 1);
        Tools.due("enough rounds are made", rounds > 1000 ? 1 : 0, 1);
        Tools.due("enough initials have several terms", wideInitials > 500 ? 1 : 0, 1);
        System.out.println("statuses 1..4: " + statuses[1] + " " + statuses[2] + " " + statuses[3] + " " + statuses[4]
                + "; checks 1..3: " + checks[1] + " " + checks[2] + " " + checks[3]
                + "; long chains: " + longChains + "; rounds: " + rounds
                + "; wide initials: " + wideInitials);
        Tools.end();
    }

    private static void oneRun(int run) {
        int primeIndex = below(10) - 1;
        int varCount = below(8);
        WuProver x = new WuProver(primeIndex, varCount);
        Model model = new Model(primeIndex, varCount);
        int mostTerms = 1 + below(below(4) == 0 ? 16 : 4);
        int mostExponent = 1 + below(below(3) == 0 ? 15 : 3);
        // Every other run starts from a chain, so that the reduction has much to do.
        boolean triangular = below(2) == 0;
        // Every other run has the main variable in all terms, so that initials have several terms.
        int mostMain = below(2) == 0 ? 1 + below(3) : 0;
        int hypotheses = triangular ? x.varCount() : 1 + below(8);
        for (int target = 0; target < hypotheses; target++) {
            int main = triangular ? target : below(x.varCount());
            fill(run, x, model, target, main, 1 + below(mostTerms), mostExponent, mostMain);
        }
        int last = x.varCount() - 1;
        fill(run, x, model, 8, last, below(2 * mostTerms + 1), mostExponent + below(2), mostMain + below(2));
        compareProof(run, x, model);
        for (int i = below(6); i > 0; i--) {
            change(run, x, model);
            if (below(2) == 0) {
                compareProof(run, x, model);
            }
        }
    }

    /** Adds terms in x_0..x_last; the first has x_last, the others have it up to the power mostMain. */
    private static void fill(int run, WuProver x, Model model, int target, int last, int terms, int mostExponent,
            int mostMain) {
        for (int i = 0; i < terms; i++) {
            int most = mostMain > 0 ? mostMain : mostExponent > 15 ? 15 : mostExponent;
            int code = (i == 0 ? 1 + below(most) : below(mostMain + 1)) << (4 * last);
            for (int v = 0; v < last; v++) {
                int exponent = below(3) == 0 ? below(mostExponent + 1) : 0;
                code += (exponent > 15 ? 15 : exponent) << (4 * v);
            }
            add(run, x, model, target, below(7) - 3, code);
        }
    }

    private static void change(int run, WuProver x, Model model) {
        int target = below(11) - 1;
        switch (below(5)) {
            case 0:
                Tools.due("run " + run + " clearPoly(" + target + ")", x.clearPoly(target), model.clearPoly(target));
                break;
            case 1:
                add(run, x, model, target, (below(65536) << 16) + below(65536), below(1 << 25) - 3);
                break;
            default:
                add(run, x, model, target, below(5) - 2, below(1 << (4 * x.varCount())) & 0x111111);
                break;
        }
        Tools.due("run " + run + " state", Tools.everything(x), model.everything());
    }

    private static void add(int run, WuProver x, Model model, int target, int coef, int code) {
        String call = "run " + run + " addTerm(" + target + ", " + coef + ", " + code + ")";
        Tools.due(call, x.addTerm(target, coef, code), model.addTerm(target, coef, code));
    }

    private static void compareProof(int run, WuProver x, Model model) {
        int status = x.prove();
        Tools.due("run " + run + " prove()", status, model.prove());
        Tools.due("run " + run + " state after prove()", Tools.everything(x), model.everything());
        Tools.due("run " + run + " identity", status > 2 || Certificate.holds(x) ? 1 : 0, 1);
        int check = x.check();
        Tools.due("run " + run + " check()", check, model.check());
        Tools.due("run " + run + " state after check()", Tools.everything(x), model.everything());
        statuses[status]++;
        checks[check]++;
        longChains += x.chainSize() > 2 ? 1 : 0;
        for (int v = 0; v < x.varCount(); v++) {
            rounds += x.multiplier(v) > 0 ? x.multiplier(v) : 0;
            wideInitials += x.multiplier(v) > 0 && isInitialWide(x, v) ? 1 : 0;
        }
    }

    /** Whether the initial of T_v has several terms: the last two terms have the same power of x_v. */
    private static boolean isInitialWide(WuProver x, int v) {
        int last = x.termCount(WuProver.KIND_CHAIN, v) - 1;
        return last > 0 && x.termCode(WuProver.KIND_CHAIN, v, last) >> (4 * v)
                == x.termCode(WuProver.KIND_CHAIN, v, last - 1) >> (4 * v);
    }
}
