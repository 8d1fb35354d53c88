/**
 * Four sequences that follow linear recurrences, modulo 101.
 *
 * Every call that changes a sequence writes the first terms of the outcome to 'probe'; the shortest
 * recurrence of those terms then tells the order, and all other terms that can be asked for.
 */
public final class RecurrenceEngine {
    public static final int BAD_SEQUENCE = -1;
    public static final int BAD_ORDER = -2;
    public static final int FULL = -3;
    public static final int BAD_INDEX = -4;

    private static final int MODULUS = 101;
    private static final int SEQUENCES = 4;
    private static final int GREATEST_ORDER = 8;
    private static final int GREATEST_DEFINED_ORDER = 4;
    private static final int WITHOUT_SIGN = 2147483647;

    /** Indices 0 to 400 can be asked for, so these terms of each sequence are kept. */
    private static final int KEPT = 401;
    private static final int ALL_KEPT = SEQUENCES * KEPT;

    /**
     * Two sequences of order 8 add up to one of order 16 at most, and no call makes a greater one;
     * twice as many terms as the order settle the shortest recurrence.
     */
    private static final int PROBED = 32;
    private static final int FACTORS = PROBED + 1;

    /** Term n of sequence s stands at s * KEPT + n. */
    private final int[] terms = new int[ALL_KEPT];
    private final int[] orders = new int[SEQUENCES];

    private final int[] probe = new int[PROBED];

    /** The recurrence is a(n) + f[1] * a(n - 1) + .. + f[L] * a(n - L) = 0, with f[0] = 1. */
    private final int[] factors = new int[FACTORS];
    private final int[] olderFactors = new int[FACTORS];
    private final int[] savedFactors = new int[FACTORS];

    public RecurrenceEngine() {
    }

    public int define(int s, int k, int coefficients, int beginning) {
        if (!isSequence(s)) {
            return BAD_SEQUENCE;
        }
        if (k < 1 || k > GREATEST_DEFINED_ORDER) {
            return BAD_ORDER;
        }
        int coefficientsLeft = coefficients & WITHOUT_SIGN;
        int beginningLeft = beginning & WITHOUT_SIGN;
        for (int i = 0; i < k; i++) {
            factors[i + 1] = reduce(-(coefficientsLeft % MODULUS));
            probe[i] = beginningLeft % MODULUS;
            coefficientsLeft /= MODULUS;
            beginningLeft /= MODULUS;
        }
        for (int n = k; n < PROBED; n++) {
            probe[n] = follow(probe, n, k);
        }
        takeProbe(s);
        return 0;
    }

    public int add(int to, int s, int t) {
        if (!isSequence(to) || !isSequence(s) || !isSequence(t)) {
            return BAD_SEQUENCE;
        }
        for (int n = 0; n < PROBED; n++) {
            probe[n] = reduce(terms[s * KEPT + n] + terms[t * KEPT + n]);
        }
        return takeProbe(to);
    }

    public int scale(int s, int x) {
        if (!isSequence(s)) {
            return BAD_SEQUENCE;
        }
        int multiplier = reduce(x);
        for (int n = 0; n < PROBED; n++) {
            probe[n] = reduce(multiplier * terms[s * KEPT + n]);
        }
        return takeProbe(s);
    }

    public int advance(int s) {
        if (!isSequence(s)) {
            return BAD_SEQUENCE;
        }
        for (int n = 0; n < PROBED; n++) {
            probe[n] = terms[s * KEPT + n + 1];
        }
        return takeProbe(s);
    }

    public int prepend(int s, int x) {
        if (!isSequence(s)) {
            return BAD_SEQUENCE;
        }
        probe[0] = reduce(x);
        for (int n = 1; n < PROBED; n++) {
            probe[n] = terms[s * KEPT + n - 1];
        }
        return takeProbe(s);
    }

    public int accumulate(int s) {
        if (!isSequence(s)) {
            return BAD_SEQUENCE;
        }
        int total = 0;
        for (int n = 0; n < PROBED; n++) {
            total = reduce(total + terms[s * KEPT + n]);
            probe[n] = total;
        }
        return takeProbe(s);
    }

    public int difference(int s) {
        if (!isSequence(s)) {
            return BAD_SEQUENCE;
        }
        int before = 0;
        for (int n = 0; n < PROBED; n++) {
            int here = terms[s * KEPT + n];
            probe[n] = reduce(here - before);
            before = here;
        }
        return takeProbe(s);
    }

    public int copy(int to, int s) {
        if (!isSequence(to) || !isSequence(s)) {
            return BAD_SEQUENCE;
        }
        for (int n = 0; n < KEPT; n++) {
            terms[to * KEPT + n] = terms[s * KEPT + n];
        }
        orders[to] = orders[s];
        return orders[to];
    }

    public int term(int s, int n) {
        if (!isSequence(s)) {
            return BAD_SEQUENCE;
        }
        if (!isIndex(n)) {
            return BAD_INDEX;
        }
        return terms[s * KEPT + n];
    }

    public int order(int s) {
        if (!isSequence(s)) {
            return BAD_SEQUENCE;
        }
        return orders[s];
    }

    public boolean equal(int s, int t) {
        if (!isSequence(s) || !isSequence(t)) {
            return false;
        }
        // Sequences of order 8 at most that part do so within 16 terms, so the kept ones tell all.
        for (int n = 0; n < KEPT; n++) {
            if (terms[s * KEPT + n] != terms[t * KEPT + n]) {
                return false;
            }
        }
        return true;
    }

    public int sum(int s, int first, int last) {
        if (!isSequence(s)) {
            return BAD_SEQUENCE;
        }
        if (!isIndex(first) || !isIndex(last) || first > last) {
            return BAD_INDEX;
        }
        int total = 0;
        for (int n = first; n <= last; n++) {
            total += terms[s * KEPT + n];
        }
        return reduce(total);
    }

    public int find(int s, int value) {
        if (!isSequence(s)) {
            return BAD_SEQUENCE;
        }
        int wanted = reduce(value);
        for (int n = 0; n < KEPT; n++) {
            if (terms[s * KEPT + n] == wanted) {
                return n;
            }
        }
        return BAD_INDEX;
    }

    private static boolean isSequence(int s) {
        return s >= 0 && s < SEQUENCES;
    }

    private static boolean isIndex(int n) {
        return n >= 0 && n < KEPT;
    }

    private static int reduce(int x) {
        int rest = x % MODULUS;
        return rest < 0 ? rest + MODULUS : rest;
    }

    /** By Fermat: x to the power 99 is the inverse of x, as 101 is a prime. */
    private static int inverse(int x) {
        int power = 1;
        for (int i = 0; i < MODULUS - 2; i++) {
            power = power * x % MODULUS;
        }
        return power;
    }

    /** Sequence s becomes the one that begins as 'probe' does, or stays if its order would be too great. */
    private int takeProbe(int s) {
        int length = shortestRecurrence();
        if (length > GREATEST_ORDER) {
            return FULL;
        }
        for (int n = 0; n < PROBED; n++) {
            terms[s * KEPT + n] = probe[n];
        }
        for (int n = PROBED; n < KEPT; n++) {
            terms[s * KEPT + n] = follow(terms, s * KEPT + n, length);
        }
        orders[s] = length;
        return length;
    }

    /** What the recurrence of this length in 'factors' asks for at a place, from what stands ahead of it. */
    private int follow(int[] list, int place, int length) {
        int total = 0;
        for (int i = 1; i <= length && i <= place; i++) {
            total += factors[i] * list[place - i];
        }
        return reduce(-total);
    }

    /** The Berlekamp-Massey algorithm: leaves the recurrence of 'probe' in 'factors', answers its length. */
    private int shortestRecurrence() {
        clearFactors();
        int length = 0;
        int shift = 1;
        int olderMiss = 1;
        for (int n = 0; n < PROBED; n++) {
            int foretold = follow(probe, n, length);
            int miss = reduce(probe[n] - foretold);
            if (miss != 0) {
                int multiplier = miss * inverse(olderMiss) % MODULUS;
                copyFactors(factors, savedFactors);
                subtractOlder(multiplier, shift);
                if (2 * length <= n) {
                    copyFactors(savedFactors, olderFactors);
                    length = n + 1 - length;
                    olderMiss = miss;
                    shift = 0;
                }
            }
            shift++;
        }
        return length;
    }

    private void clearFactors() {
        for (int i = 0; i < FACTORS; i++) {
            factors[i] = 0;
            olderFactors[i] = 0;
        }
        factors[0] = 1;
        olderFactors[0] = 1;
    }

    private static void copyFactors(int[] from, int[] to) {
        for (int i = 0; i < FACTORS; i++) {
            to[i] = from[i];
        }
    }

    private void subtractOlder(int multiplier, int shift) {
        for (int i = shift; i < FACTORS; i++) {
            factors[i] = reduce(factors[i] - multiplier * olderFactors[i - shift]);
        }
    }
}
