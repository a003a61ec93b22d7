/** Promise 9: termCode() and termCoef() answer the j-th term in increasing order of code, or -1. */
public final class Promise09TermsTest {
    private static final int[] NUMBERS = {Integer.MIN_VALUE, -2, -1, 0, 1, 2, 3, 4, 5, 6, 7, 8, 9, 15, 16, 17, 34,
        Integer.MAX_VALUE};

    public static void main(String[] args) {
        zeroPolynomials();
        inputs();
        results();
        fullPolynomial();
        Tools.end();
    }

    private static void zeroPolynomials() {
        WuProver x = new WuProver(4, 3);
        for (int kind : NUMBERS) {
            for (int index : NUMBERS) {
                for (int j : NUMBERS) {
                    String call = "(" + kind + ", " + index + ", " + j + ")";
                    Tools.due("termCode" + call, x.termCode(kind, index, j), -1);
                    Tools.due("termCoef" + call, x.termCoef(kind, index, j), -1);
                }
            }
        }
    }

    private static void inputs() {
        WuProver x = new WuProver(7, 6);
        x.addTerm(7, -1, 0xffffff);
        x.addTerm(7, 1, 0x100000);
        x.addTerm(7, 20000, 0);
        x.addTerm(8, 3, 0x010203);
        terms(x, 0, 7, new int[] {0, 0x100000, 0xffffff}, new int[] {20000, 1, 32748});
        terms(x, 1, 0, new int[] {0x010203}, new int[] {3});
        Tools.due("termCode(0, 8, 0)", x.termCode(0, 8, 0), -1);
        Tools.due("termCode(1, 1, 0)", x.termCode(1, 1, 0), -1);
        Tools.due("termCoef(1, -1, 0)", x.termCoef(1, -1, 0), -1);
        Tools.due("termCoef(-1, 0, 0)", x.termCoef(-1, 0, 0), -1);
    }

    private static void results() {
        WuProver x = new WuProver(4, 2);
        Tools.enter(x, 3, "2*x1 - x0 - 1");
        Tools.enter(x, 8, "x1^2");
        // 4*x1^2 = (2*x1 + x0 + 1)*(2*x1 - x0 - 1) + (x0 + 1)^2
        Tools.due("prove()", x.prove(), WuProver.STATUS_NOT_PROVED);
        String before = Tools.everything(x);
        terms(x, 2, 1, new int[] {0, 1, 16}, new int[] {100, 100, 2});
        terms(x, 3, 1, new int[] {0, 1, 16}, new int[] {1, 1, 2});
        terms(x, 4, 0, new int[] {0, 1, 2}, new int[] {1, 2, 1});
        terms(x, 2, 0, new int[] {}, new int[] {});
        terms(x, 2, 2, new int[] {}, new int[] {});
        terms(x, 3, 2, new int[] {}, new int[] {});
        terms(x, 4, 1, new int[] {}, new int[] {});
        terms(x, 5, 0, new int[] {}, new int[] {});
        Tools.due("state after the getters", Tools.everything(x), before);
        // What was there must not shine through once it is cleared.
        x.addTerm(0, 0, 0);
        terms(x, 2, 1, new int[] {}, new int[] {});
        terms(x, 3, 1, new int[] {}, new int[] {});
        terms(x, 4, 0, new int[] {}, new int[] {});
    }

    private static void fullPolynomial() {
        WuProver x = new WuProver(5, 2);
        int[] codes = new int[16];
        int[] coefs = new int[16];
        for (int i = 15; i >= 0; i--) {
            codes[i] = 17 * i;
            coefs[i] = 1008 - i;
            x.addTerm(4, coefs[i], codes[i]);
        }
        terms(x, 0, 4, codes, coefs);
    }

    private static void terms(WuProver x, int kind, int index, int[] codes, int[] coefs) {
        for (int j = 0; j < codes.length; j++) {
            String call = "(" + kind + ", " + index + ", " + j + ")";
            Tools.due("termCode" + call, x.termCode(kind, index, j), codes[j]);
            Tools.due("termCoef" + call, x.termCoef(kind, index, j), coefs[j]);
        }
        for (int j : new int[] {Integer.MIN_VALUE, -1, codes.length, codes.length + 1, 16, Integer.MAX_VALUE}) {
            String call = "(" + kind + ", " + index + ", " + j + ")";
            Tools.due("termCode" + call, x.termCode(kind, index, j), -1);
            Tools.due("termCoef" + call, x.termCoef(kind, index, j), -1);
        }
    }
}
