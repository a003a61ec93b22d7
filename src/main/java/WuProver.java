/** A prover for geometry theorems in coordinate form: Wu's method over a prime field. */
public final class WuProver {
    public static final int MAX_TERMS = 16;
    public static final int MAX_EXP = 15;
    public static final int HYPOTHESES = 8;
    public static final int TARGET_CONCLUSION = 8;
    public static final int STATUS_IDLE = 0;
    public static final int STATUS_PROVED = 1;
    public static final int STATUS_NOT_PROVED = 2;
    public static final int STATUS_INCONSISTENT = 3;
    public static final int STATUS_OVERFLOW = 4;
    public static final int CHECK_NONE = 0;
    public static final int CHECK_OK = 1;
    public static final int CHECK_BAD = 2;
    public static final int CHECK_TOO_BIG = 3;
    public static final int KIND_HYPOTHESIS = 0;
    public static final int KIND_CONCLUSION = 1;
    public static final int KIND_CHAIN = 2;
    public static final int KIND_QUOTIENT = 3;
    public static final int KIND_REMAINDER = 4;

    private static final int MAX_VARS = 6;
    private static final int LAST_PRIME_INDEX = 7;

    private static final int CLASS_CONSTANT = -1;
    private static final int CLASS_ZERO = -2;
    private static final int CLASS_INVALID = -3;

    // Callers' codes spend four bits on an exponent, held codes five: the product of two
    // held monomials has exponents up to 30, so its code is the plain sum of the two codes.
    // Both codes put the terms of a polynomial in the same order.
    private static final int CODE_BITS = 4;
    private static final int CODE_MASK = 15;
    private static final int HELD_BITS = 5;
    private static final int HELD_MASK = 31;
    // The bit worth 16 of each of the six exponents: set when an exponent is above MAX_EXP.
    private static final int ABOVE_MAX_EXP = 0x21084210;

    // A slot holds one polynomial that is not oversized. The first nine slots are the
    // inputs, so that a target of addTerm is its own slot.
    private static final int SLOT_CONCLUSION = 8;
    private static final int SLOT_CHAIN = 9;
    private static final int SLOT_QUOTIENT = 15;
    private static final int SLOT_REMAINDER = 21;
    private static final int SLOT_WORK = 22;
    private static final int SLOT_INITIAL = 30;
    private static final int SLOT_LEAD = 31;
    private static final int SLOT_LEFT = 32;
    private static final int SLOT_RIGHT = 33;
    private static final int SLOTS = 34;
    private static final int NO_SLOT = -1;
    private static final int STORE_LENGTH = SLOTS * MAX_TERMS;

    // The largest sum is a round's I*R - C*B: two products of 16 by 16 terms.
    private static final int SUM_LENGTH = 2 * MAX_TERMS * MAX_TERMS;

    // Each pass lowers the least degree of a class, which is 15 at most, or leaves one
    // polynomial in it: no run comes near this bound.
    private static final int PASS_BOUND = 1000;

    private final int[] counts = new int[SLOTS];
    private final int[] codes = new int[STORE_LENGTH];
    private final int[] coefs = new int[STORE_LENGTH];
    private final int[] multipliers = new int[MAX_VARS];

    // The unlimited value that is being made. Its codes increase; a coefficient may be 0.
    private final int[] sumCodes = new int[SUM_LENGTH];
    private final int[] sumCoefs = new int[SUM_LENGTH];
    private int sumCount;

    private final int p;
    private final int vars;
    private int state;

    public WuProver(int primeIndex, int varCount) {
        int index = clamp(primeIndex, 0, LAST_PRIME_INDEX);
        p = primeAt(index);
        vars = clamp(varCount, 1, MAX_VARS);
        clearResults();
    }

    public int prime() {
        return p;
    }

    public int varCount() {
        return vars;
    }

    public int addTerm(int target, int coef, int code) {
        if (!isTarget(target) || !isCode(code)) {
            return -1;
        }
        int held = heldCode(code);
        int residue = coef % p;
        if (residue < 0) {
            residue += p;
        }
        sumCount = 0;
        addPoly(target);
        addToSum(held, residue);
        if (!storeSum(target)) {
            return -1;
        }
        clearResults();
        return counts[target];
    }

    public int clearPoly(int target) {
        if (!isTarget(target)) {
            return -1;
        }
        counts[target] = 0;
        clearResults();
        return 0;
    }

    public int prove() {
        clearResults();
        int end = triangulate();
        if (end == STATUS_IDLE) {
            end = reduce();
        }
        if (end == STATUS_INCONSISTENT || end == STATUS_OVERFLOW) {
            clearResults();
        }
        state = end;
        return end;
    }

    public int status() {
        return state;
    }

    public int termCount(int kind, int index) {
        int slot = selectedSlot(kind, index);
        return slot == NO_SLOT ? -1 : counts[slot];
    }

    public int termCode(int kind, int index, int j) {
        int slot = selectedSlot(kind, index);
        if (slot == NO_SLOT || j < 0 || j >= counts[slot]) {
            return -1;
        }
        return callersCode(codes[slot * MAX_TERMS + j]);
    }

    public int termCoef(int kind, int index, int j) {
        int slot = selectedSlot(kind, index);
        if (slot == NO_SLOT || j < 0 || j >= counts[slot]) {
            return -1;
        }
        return coefs[slot * MAX_TERMS + j];
    }

    public int classOf(int kind, int index) {
        int slot = selectedSlot(kind, index);
        return slot == NO_SLOT ? CLASS_INVALID : slotClass(slot);
    }

    public int multiplier(int v) {
        return v < 0 || v >= vars ? -1 : multipliers[v];
    }

    public int check() {
        if (state != STATUS_PROVED && state != STATUS_NOT_PROVED) {
            return CHECK_NONE;
        }
        if (!expandLeft() || !expandRight()) {
            return CHECK_TOO_BIG;
        }
        return samePoly(SLOT_LEFT, SLOT_RIGHT) ? CHECK_OK : CHECK_BAD;
    }

    public int chainSize() {
        int size = 0;
        for (int v = 0; v < vars; v++) {
            if (counts[SLOT_CHAIN + v] > 0) {
                size++;
            }
        }
        return size;
    }

    // ---- arguments ----

    private static int clamp(int value, int least, int most) {
        if (value < least) {
            return least;
        }
        return value > most ? most : value;
    }

    private static int primeAt(int index) {
        switch (index) {
            case 0: return 2;
            case 1: return 3;
            case 2: return 5;
            case 3: return 7;
            case 4: return 101;
            case 5: return 1009;
            case 6: return 10007;
            default: return 32749;
        }
    }

    private static boolean isTarget(int target) {
        return target >= 0 && target <= TARGET_CONCLUSION;
    }

    private boolean isCode(int code) {
        return code >= 0 && code < (1 << (CODE_BITS * vars));
    }

    private int selectedSlot(int kind, int index) {
        switch (kind) {
            case KIND_HYPOTHESIS: return slotAt(0, index, HYPOTHESES);
            case KIND_CONCLUSION: return slotAt(SLOT_CONCLUSION, index, 1);
            case KIND_CHAIN: return slotAt(SLOT_CHAIN, index, vars);
            case KIND_QUOTIENT: return slotAt(SLOT_QUOTIENT, index, vars);
            case KIND_REMAINDER: return slotAt(SLOT_REMAINDER, index, 1);
            default: return NO_SLOT;
        }
    }

    private static int slotAt(int first, int index, int length) {
        return index < 0 || index >= length ? NO_SLOT : first + index;
    }

    private static int heldCode(int code) {
        int held = 0;
        for (int v = 0; v < MAX_VARS; v++) {
            int exponent = (code >> (CODE_BITS * v)) & CODE_MASK;
            held |= exponent << (HELD_BITS * v);
        }
        return held;
    }

    private static int callersCode(int held) {
        int code = 0;
        for (int v = 0; v < MAX_VARS; v++) {
            code |= exponentOf(held, v) << (CODE_BITS * v);
        }
        return code;
    }

    private static int exponentOf(int held, int v) {
        return (held >> (HELD_BITS * v)) & HELD_MASK;
    }

    // ---- the steps of prove() and check() ----

    private void clearResults() {
        for (int slot = SLOT_CHAIN; slot <= SLOT_REMAINDER; slot++) {
            counts[slot] = 0;
        }
        for (int v = 0; v < MAX_VARS; v++) {
            multipliers[v] = -1;
        }
        state = STATUS_IDLE;
    }

    /** Fills the chain. Answers STATUS_IDLE when it stands, else the status to stop with. */
    private int triangulate() {
        for (int i = 0; i < HYPOTHESES; i++) {
            copyPoly(i, SLOT_WORK + i);
        }
        if (countOfClass(CLASS_CONSTANT) > 0) {
            return STATUS_INCONSISTENT;
        }
        for (int v = vars - 1; v >= 0; v--) {
            for (int pass = 0; pass < PASS_BOUND && countOfClass(v) > 1; pass++) {
                int base = leastOfClass(v);
                int end = divideOthers(base, v);
                if (end != STATUS_IDLE) {
                    return end;
                }
            }
            takeChainElement(v);
        }
        return STATUS_IDLE;
    }

    private int countOfClass(int wanted) {
        int count = 0;
        for (int a = SLOT_WORK; a < SLOT_WORK + HYPOTHESES; a++) {
            if (slotClass(a) == wanted) {
                count++;
            }
        }
        return count;
    }

    /** The working slot of class v with the least degree in x_v; of several, the first. */
    private int leastOfClass(int v) {
        int least = SLOT_WORK;
        int leastDegree = MAX_EXP + 1;
        for (int a = SLOT_WORK; a < SLOT_WORK + HYPOTHESES; a++) {
            if (slotClass(a) == v && degree(a, v) < leastDegree) {
                least = a;
                leastDegree = degree(a, v);
            }
        }
        return least;
    }

    private int divideOthers(int base, int v) {
        for (int a = SLOT_WORK; a < SLOT_WORK + HYPOTHESES; a++) {
            if (a == base || slotClass(a) != v) {
                continue;
            }
            if (divide(a, base, v, NO_SLOT) < 0) {
                return STATUS_OVERFLOW;
            }
            if (slotClass(a) == CLASS_CONSTANT) {
                return STATUS_INCONSISTENT;
            }
        }
        return STATUS_IDLE;
    }

    private void takeChainElement(int v) {
        for (int a = SLOT_WORK; a < SLOT_WORK + HYPOTHESES; a++) {
            if (slotClass(a) == v) {
                copyPoly(a, SLOT_CHAIN + v);
                counts[a] = 0;
            }
        }
    }

    /** Divides the conclusion through the chain. Answers the status to end with. */
    private int reduce() {
        copyPoly(SLOT_CONCLUSION, SLOT_REMAINDER);
        for (int v = vars - 1; v >= 0; v--) {
            if (counts[SLOT_CHAIN + v] == 0) {
                continue;
            }
            int k = divide(SLOT_REMAINDER, SLOT_CHAIN + v, v, SLOT_QUOTIENT + v);
            if (k < 0 || !raiseQuotientsAbove(v, k)) {
                return STATUS_OVERFLOW;
            }
            multipliers[v] = k;
        }
        return counts[SLOT_REMAINDER] == 0 ? STATUS_PROVED : STATUS_NOT_PROVED;
    }

    private boolean raiseQuotientsAbove(int v, int k) {
        copyInitial(SLOT_CHAIN + v, v);
        for (int u = vars - 1; u > v; u--) {
            if (!multiplyByInitial(SLOT_QUOTIENT + u, k)) {
                return false;
            }
        }
        return true;
    }

    private boolean expandLeft() {
        copyPoly(SLOT_CONCLUSION, SLOT_LEFT);
        for (int v = vars - 1; v >= 0; v--) {
            if (counts[SLOT_CHAIN + v] == 0) {
                continue;
            }
            copyInitial(SLOT_CHAIN + v, v);
            if (!multiplyByInitial(SLOT_LEFT, multipliers[v])) {
                return false;
            }
        }
        return true;
    }

    private boolean expandRight() {
        copyPoly(SLOT_REMAINDER, SLOT_RIGHT);
        for (int v = vars - 1; v >= 0; v--) {
            // Where the chain is zero this adds nothing, and the value was checked before.
            sumCount = 0;
            addPoly(SLOT_RIGHT);
            addProduct(SLOT_QUOTIENT + v, SLOT_CHAIN + v, 1);
            if (!storeSum(SLOT_RIGHT)) {
                return false;
            }
        }
        return true;
    }

    // ---- polynomials in slots ----

    /**
     * Pseudo-division of slot a by slot b, whose class is v: a becomes the remainder and
     * q, a zero polynomial or NO_SLOT, the quotient. Answers the number of rounds, or -1
     * when a checked value was oversized.
     */
    private int divide(int a, int b, int v, int q) {
        int m = degree(b, v);
        int rounds = degree(a, v) - m + 1;
        copyCoefficient(b, v, m, SLOT_INITIAL, 0);
        for (int round = 0; round < rounds; round++) {
            int e = degree(a, v);
            // Where e < m the lead is zero, and the same sums only multiply by the initial.
            counts[SLOT_LEAD] = 0;
            if (e >= m) {
                copyCoefficient(a, v, e, SLOT_LEAD, e - m);
            }
            sumCount = 0;
            addProduct(SLOT_INITIAL, a, 1);
            addProduct(SLOT_LEAD, b, p - 1);
            if (!storeSum(a)) {
                return -1;
            }
            if (q == NO_SLOT) {
                continue;
            }
            sumCount = 0;
            addProduct(SLOT_INITIAL, q, 1);
            addPoly(SLOT_LEAD);
            if (!storeSum(q)) {
                return -1;
            }
        }
        return rounds > 0 ? rounds : 0;
    }

    private boolean multiplyByInitial(int slot, int times) {
        for (int i = 0; i < times; i++) {
            sumCount = 0;
            addProduct(SLOT_INITIAL, slot, 1);
            if (!storeSum(slot)) {
                return false;
            }
        }
        return true;
    }

    private void copyInitial(int slot, int v) {
        int m = degree(slot, v);
        copyCoefficient(slot, v, m, SLOT_INITIAL, 0);
    }

    /** Copies the coefficient of x_v^e in a slot, times x_v^newExponent. */
    private void copyCoefficient(int from, int v, int e, int to, int newExponent) {
        int change = (newExponent - e) << (HELD_BITS * v);
        int count = 0;
        for (int j = 0; j < counts[from]; j++) {
            int code = codes[from * MAX_TERMS + j];
            if (exponentOf(code, v) == e) {
                codes[to * MAX_TERMS + count] = code + change;
                coefs[to * MAX_TERMS + count] = coefs[from * MAX_TERMS + j];
                count++;
            }
        }
        counts[to] = count;
    }

    private void copyPoly(int from, int to) {
        counts[to] = counts[from];
        for (int j = 0; j < counts[from]; j++) {
            codes[to * MAX_TERMS + j] = codes[from * MAX_TERMS + j];
            coefs[to * MAX_TERMS + j] = coefs[from * MAX_TERMS + j];
        }
    }

    private boolean samePoly(int a, int b) {
        if (counts[a] != counts[b]) {
            return false;
        }
        for (int j = 0; j < counts[a]; j++) {
            if (codes[a * MAX_TERMS + j] != codes[b * MAX_TERMS + j]
                    || coefs[a * MAX_TERMS + j] != coefs[b * MAX_TERMS + j]) {
                return false;
            }
        }
        return true;
    }

    private int degree(int slot, int v) {
        int greatest = -1;
        for (int j = 0; j < counts[slot]; j++) {
            int exponent = exponentOf(codes[slot * MAX_TERMS + j], v);
            if (exponent > greatest) {
                greatest = exponent;
            }
        }
        return greatest;
    }

    private int slotClass(int slot) {
        if (counts[slot] == 0) {
            return CLASS_ZERO;
        }
        for (int v = vars - 1; v >= 0; v--) {
            if (degree(slot, v) >= 1) {
                return v;
            }
        }
        return CLASS_CONSTANT;
    }

    // ---- the sum ----

    private void addPoly(int slot) {
        for (int j = 0; j < counts[slot]; j++) {
            addToSum(codes[slot * MAX_TERMS + j], coefs[slot * MAX_TERMS + j]);
        }
    }

    /** Adds scale * a * b, with the scale in 0..p-1. */
    private void addProduct(int a, int b, int scale) {
        for (int i = 0; i < counts[a]; i++) {
            int code = codes[a * MAX_TERMS + i];
            int coef = coefs[a * MAX_TERMS + i] * scale % p;
            for (int j = 0; j < counts[b]; j++) {
                int product = coef * coefs[b * MAX_TERMS + j] % p;
                addToSum(code + codes[b * MAX_TERMS + j], product);
            }
        }
    }

    private void addToSum(int code, int coef) {
        int at = sumCount;
        for (; at > 0; at--) {
            if (sumCodes[at - 1] <= code) {
                break;
            }
        }
        if (at > 0 && sumCodes[at - 1] == code) {
            sumCoefs[at - 1] = (sumCoefs[at - 1] + coef) % p;
            return;
        }
        for (int i = sumCount; i > at; i--) {
            sumCodes[i] = sumCodes[i - 1];
            sumCoefs[i] = sumCoefs[i - 1];
        }
        sumCodes[at] = code;
        sumCoefs[at] = coef;
        sumCount++;
    }

    /** Puts the sum into a slot, or answers false and leaves the slot if it is oversized. */
    private boolean storeSum(int slot) {
        if (isSumOversized()) {
            return false;
        }
        int count = 0;
        for (int i = 0; i < sumCount; i++) {
            if (sumCoefs[i] != 0) {
                codes[slot * MAX_TERMS + count] = sumCodes[i];
                coefs[slot * MAX_TERMS + count] = sumCoefs[i];
                count++;
            }
        }
        counts[slot] = count;
        return true;
    }

    private boolean isSumOversized() {
        int count = 0;
        for (int i = 0; i < sumCount; i++) {
            if (sumCoefs[i] == 0) {
                continue;
            }
            if ((sumCodes[i] & ABOVE_MAX_EXP) != 0) {
                return true;
            }
            count++;
        }
        return count > MAX_TERMS;
    }
}
