import java.util.ArrayList;
import java.util.List;
import java.util.Map;
import java.util.TreeMap;

/**
 * The document written down a second time, over maps of any size, as plainly as its words go.
 * A polynomial is a map from a monomial (ten bits an exponent) to a coefficient in 1..p-1.
 */
final class Model {
    private static final int[] PRIMES = {2, 3, 5, 7, 101, 1009, 10007, 32749};
    private static final int BITS = 10;

    private static final class Stop extends RuntimeException {
        private static final long serialVersionUID = 1L;
        final int status;

        Stop(int status) {
            super(null, null, false, false);
            this.status = status;
        }
    }

    private static final class Division {
        int k;
        TreeMap<Long, Long> quotient = new TreeMap<>();
        TreeMap<Long, Long> rest = new TreeMap<>();
    }

    final int p;
    final int vars;
    private final List<TreeMap<Long, Long>> inputs = new ArrayList<>();
    private final List<TreeMap<Long, Long>> chain = new ArrayList<>();
    private final List<TreeMap<Long, Long>> quotients = new ArrayList<>();
    private final int[] multipliers = new int[6];
    private TreeMap<Long, Long> remainder = new TreeMap<>();
    private int status;

    Model(int primeIndex, int varCount) {
        p = PRIMES[Math.max(0, Math.min(7, primeIndex))];
        vars = Math.max(1, Math.min(6, varCount));
        for (int i = 0; i < 9; i++) {
            inputs.add(new TreeMap<>());
        }
        clearResults();
    }

    private void clearResults() {
        chain.clear();
        quotients.clear();
        for (int v = 0; v < vars; v++) {
            chain.add(new TreeMap<>());
            quotients.add(new TreeMap<>());
            multipliers[v] = -1;
        }
        remainder = new TreeMap<>();
        status = 0;
    }

    int addTerm(int target, int coef, int code) {
        if (target < 0 || target > 8) {
            return -1;
        }
        if (code < 0 || code >= Math.round(Math.pow(16, vars))) {
            return -1;
        }
        long c = Math.floorMod((long) coef, (long) p);
        TreeMap<Long, Long> poly = inputs.get(target);
        long monomial = 0;
        for (int v = 0; v < vars; v++) {
            monomial |= (long) ((code >> (4 * v)) & 15) << (BITS * v);
        }
        if (c != 0) {
            if (!poly.containsKey(monomial) && poly.size() == 16) {
                return -1;
            }
            addInto(poly, monomial, c);
        }
        clearResults();
        return poly.size();
    }

    int clearPoly(int target) {
        if (target < 0 || target > 8) {
            return -1;
        }
        inputs.get(target).clear();
        clearResults();
        return 0;
    }

    int prove() {
        clearResults();
        try {
            triangulate();
            reduce();
            status = remainder.isEmpty() ? 1 : 2;
        } catch (Stop stop) {
            clearResults();
            status = stop.status;
        }
        return status;
    }

    private void triangulate() {
        List<TreeMap<Long, Long>> work = new ArrayList<>();
        for (int i = 0; i < 8; i++) {
            work.add(new TreeMap<>(inputs.get(i)));
            if (classOf(work.get(i)) == -1) {
                throw new Stop(3);
            }
        }
        for (int v = vars - 1; v >= 0; v--) {
            List<Integer> same = ofClass(work, v);
            while (same.size() > 1) {
                int b = same.get(0);
                for (int a : same) {
                    if (degree(work.get(a), v) < degree(work.get(b), v)) {
                        b = a;
                    }
                }
                for (int a : same) {
                    if (a != b) {
                        work.set(a, divide(work.get(a), work.get(b), v, false).rest);
                        if (classOf(work.get(a)) == -1) {
                            throw new Stop(3);
                        }
                    }
                }
                same = ofClass(work, v);
            }
            if (same.size() == 1) {
                chain.set(v, work.get(same.get(0)));
                work.set(same.get(0), new TreeMap<>());
            }
        }
    }

    private List<Integer> ofClass(List<TreeMap<Long, Long>> work, int v) {
        List<Integer> found = new ArrayList<>();
        for (int i = 0; i < 8; i++) {
            if (classOf(work.get(i)) == v) {
                found.add(i);
            }
        }
        return found;
    }

    private void reduce() {
        remainder = new TreeMap<>(inputs.get(8));
        for (int v = vars - 1; v >= 0; v--) {
            if (chain.get(v).isEmpty()) {
                continue;
            }
            Division done = divide(remainder, chain.get(v), v, true);
            remainder = done.rest;
            multipliers[v] = done.k;
            for (int u = vars - 1; u > v; u--) {
                for (int i = 0; i < done.k && !chain.get(u).isEmpty(); i++) {
                    quotients.set(u, checked(times(initial(chain.get(v), v), quotients.get(u))));
                }
            }
            quotients.set(v, done.quotient);
        }
    }

    private Division divide(TreeMap<Long, Long> a, TreeMap<Long, Long> b, int v, boolean withQuotient) {
        Division done = new Division();
        done.rest = new TreeMap<>(a);
        int m = degree(b, v);
        int d = degree(a, v);
        if (d < m) {
            return done;
        }
        TreeMap<Long, Long> initial = initial(b, v);
        done.k = d - m + 1;
        for (int round = 0; round < done.k; round++) {
            int e = degree(done.rest, v);
            if (e >= m) {
                TreeMap<Long, Long> step = new TreeMap<>();
                step.put((long) (e - m) << (BITS * v), 1L);
                TreeMap<Long, Long> c = times(coefficient(done.rest, v, e), step);
                done.rest = plus(times(initial, done.rest), minus(times(c, b)));
                done.quotient = plus(times(initial, done.quotient), c);
            } else {
                done.rest = times(initial, done.rest);
                done.quotient = times(initial, done.quotient);
            }
            checked(done.rest);
            if (withQuotient) {
                checked(done.quotient);
            }
        }
        return done;
    }

    int check() {
        if (status != 1 && status != 2) {
            return 0;
        }
        try {
            TreeMap<Long, Long> left = inputs.get(8);
            for (int v = vars - 1; v >= 0; v--) {
                for (int i = 0; i < multipliers[v]; i++) {
                    left = checked(times(initial(chain.get(v), v), left));
                }
            }
            TreeMap<Long, Long> right = remainder;
            for (int v = vars - 1; v >= 0; v--) {
                right = checked(plus(right, times(quotients.get(v), chain.get(v))));
            }
            return left.equals(right) ? 1 : 2;
        } catch (Stop stop) {
            return 3;
        }
    }

    // ---- the arithmetic ----

    private void addInto(TreeMap<Long, Long> poly, long monomial, long coef) {
        long sum = Math.floorMod(poly.getOrDefault(monomial, 0L) + coef, (long) p);
        if (sum == 0) {
            poly.remove(monomial);
        } else {
            poly.put(monomial, sum);
        }
    }

    private TreeMap<Long, Long> plus(TreeMap<Long, Long> a, TreeMap<Long, Long> b) {
        TreeMap<Long, Long> sum = new TreeMap<>(a);
        b.forEach((monomial, coef) -> addInto(sum, monomial, coef));
        return sum;
    }

    private TreeMap<Long, Long> minus(TreeMap<Long, Long> a) {
        TreeMap<Long, Long> negative = new TreeMap<>();
        a.forEach((monomial, coef) -> negative.put(monomial, p - coef));
        return negative;
    }

    private TreeMap<Long, Long> times(TreeMap<Long, Long> a, TreeMap<Long, Long> b) {
        TreeMap<Long, Long> product = new TreeMap<>();
        a.forEach((m, c) -> b.forEach((n, d) -> addInto(product, m + n, c * d)));
        return product;
    }

    private static int exponent(long monomial, int v) {
        return (int) (monomial >> (BITS * v)) & ((1 << BITS) - 1);
    }

    private static int degree(TreeMap<Long, Long> poly, int v) {
        return poly.keySet().stream().mapToInt(m -> exponent(m, v)).max().orElse(-1);
    }

    private int classOf(TreeMap<Long, Long> poly) {
        int v = vars - 1;
        while (v >= 0 && degree(poly, v) < 1) {
            v--;
        }
        return poly.isEmpty() ? -2 : v;
    }

    private static TreeMap<Long, Long> coefficient(TreeMap<Long, Long> poly, int v, int e) {
        TreeMap<Long, Long> found = new TreeMap<>();
        poly.forEach((m, c) -> {
            if (exponent(m, v) == e) {
                found.put(m - ((long) e << (BITS * v)), c);
            }
        });
        return found;
    }

    private static TreeMap<Long, Long> initial(TreeMap<Long, Long> poly, int v) {
        return coefficient(poly, v, degree(poly, v));
    }

    private TreeMap<Long, Long> checked(TreeMap<Long, Long> poly) {
        boolean oversized = poly.size() > 16;
        for (int v = 0; v < vars; v++) {
            oversized |= degree(poly, v) > 15;
        }
        if (oversized) {
            throw new Stop(4);
        }
        return poly;
    }

    // ---- the same picture as Tools.everything draws through the getters ----

    String everything() {
        StringBuilder text = new StringBuilder("p" + p + " V" + vars + " ");
        inputs.forEach(poly -> picture(text, poly));
        chain.forEach(poly -> picture(text, poly));
        quotients.forEach(poly -> picture(text, poly));
        picture(text, remainder);
        int size = 0;
        for (int v = 0; v < vars; v++) {
            text.append("k").append(multipliers[v]).append(' ');
            size += chain.get(v).isEmpty() ? 0 : 1;
        }
        return text.append("size").append(size).append(" status").append(status).toString();
    }

    private void picture(StringBuilder text, TreeMap<Long, Long> poly) {
        text.append('(');
        for (Map.Entry<Long, Long> term : poly.entrySet()) {
            int code = 0;
            for (int v = 0; v < vars; v++) {
                code += exponent(term.getKey(), v) << (4 * v);
            }
            text.append(code).append(':').append(term.getValue()).append(' ');
        }
        text.append("class").append(classOf(poly)).append(')');
    }
}
