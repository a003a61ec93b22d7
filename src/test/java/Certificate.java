import java.util.TreeMap;

/** Expands a certificate as it is read through the getters, with no limit on terms and exponents. */
final class Certificate {
    // An exponent is at most 15 + 5 * 15 * 15, but for the last variable's, which no initial raises.
    private static final int BITS = 11;

    private final WuProver x;

    private Certificate(WuProver x) {
        this.x = x;
    }

    /** Whether the initials' powers times G are the sum of all Q_v * T_v, and R. */
    static boolean holds(WuProver x) {
        Certificate certificate = new Certificate(x);
        return certificate.left().equals(certificate.right());
    }

    private TreeMap<Long, Long> left() {
        TreeMap<Long, Long> left = read(WuProver.KIND_CONCLUSION, 0);
        for (int v = 0; v < x.varCount(); v++) {
            for (int i = 0; i < x.multiplier(v); i++) {
                TreeMap<Long, Long> product = new TreeMap<>();
                addProduct(product, initial(v), left);
                left = product;
            }
        }
        return left;
    }

    private TreeMap<Long, Long> right() {
        TreeMap<Long, Long> right = read(WuProver.KIND_REMAINDER, 0);
        for (int v = 0; v < x.varCount(); v++) {
            addProduct(right, read(WuProver.KIND_QUOTIENT, v), read(WuProver.KIND_CHAIN, v));
        }
        return right;
    }

    private TreeMap<Long, Long> read(int kind, int index) {
        TreeMap<Long, Long> poly = new TreeMap<>();
        for (int j = 0; j < x.termCount(kind, index); j++) {
            int code = x.termCode(kind, index, j);
            long monomial = 0;
            for (int v = 0; v < x.varCount(); v++) {
                monomial += (long) (code >> (4 * v) & 15) << (BITS * v);
            }
            poly.put(monomial, (long) x.termCoef(kind, index, j));
        }
        return poly;
    }

    private TreeMap<Long, Long> initial(int v) {
        // The terms of the greatest exponent of x_v come last in an element of class v.
        TreeMap<Long, Long> element = read(WuProver.KIND_CHAIN, v);
        long lead = element.lastKey() >> (BITS * v) << (BITS * v);
        TreeMap<Long, Long> initial = new TreeMap<>();
        element.tailMap(lead).forEach((monomial, coef) -> initial.put(monomial - lead, coef));
        return initial;
    }

    private void addProduct(TreeMap<Long, Long> sum, TreeMap<Long, Long> a, TreeMap<Long, Long> b) {
        a.forEach((m, c) -> b.forEach((n, d) -> {
            long coef = (sum.getOrDefault(m + n, 0L) + c * d) % x.prime();
            if (coef == 0) {
                sum.remove(m + n);
            } else {
                sum.put(m + n, coef);
            }
        }));
    }
}
