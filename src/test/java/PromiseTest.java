/** One method for each promise: ordinary inputs, the edges that the document names, wrong inputs. */
public final class PromiseTest {
    private static final int BAD_SEQUENCE = RecurrenceEngine.BAD_SEQUENCE;
    private static final int BAD_ORDER = RecurrenceEngine.BAD_ORDER;
    private static final int FULL = RecurrenceEngine.FULL;
    private static final int BAD_INDEX = RecurrenceEngine.BAD_INDEX;
    private static final int LOWEST = Integer.MIN_VALUE;
    private static final int HIGHEST = Integer.MAX_VALUE;
    private static final int[] NO_SEQUENCES = {-1, 4, LOWEST, HIGHEST};

    private static int wrong = 0;

    public static void main(String[] args) {
        constants();
        newObject();
        define();
        defineDigits();
        defineRefused();
        add();
        addRefused();
        addOfSumThatLooksShort();
        scale();
        advance();
        prepend();
        accumulate();
        difference();
        copy();
        term();
        order();
        equal();
        sum();
        find();
        if (wrong != 0) {
            System.out.println(wrong + " answers are not as due");
            System.exit(1);
        }
    }

    private static void due(String call, long got, long want) {
        if (got != want) {
            wrong++;
            System.out.println(call + " answered " + got + ", due is " + want);
        }
    }

    private static void due(String call, boolean got, boolean want) {
        due(call, got ? 1 : 0, want ? 1 : 0);
    }

    private static void dueTerms(String when, RecurrenceEngine x, int s, int... want) {
        for (int n = 0; n < want.length; n++) {
            due(when + ": term(" + s + ", " + n + ")", x.term(s, n), want[n]);
        }
    }

    /** 0 holds 0 1 1 2 3 5 .., 1 holds 1 3 9 27 .., 2 holds 7 0 0 .., 3 holds zeros. */
    private static RecurrenceEngine filled() {
        RecurrenceEngine x = new RecurrenceEngine();
        x.define(0, 2, 1 + 101, 101);
        x.define(1, 1, 3, 1);
        x.prepend(2, 7);
        return x;
    }

    private static void dueFilled(String when, RecurrenceEngine x) {
        dueTerms(when, x, 0, 0, 1, 1, 2, 3, 5, 8, 13, 21, 34, 55, 89, 43, 31);
        dueTerms(when, x, 1, 1, 3, 9, 27, 81, 41, 22, 66, 97, 89);
        dueTerms(when, x, 2, 7, 0, 0, 0, 0, 0, 0, 0, 0, 0);
        dueTerms(when, x, 3, 0, 0, 0, 0, 0, 0, 0, 0, 0, 0);
        due(when + ": order(0)", x.order(0), 2);
        due(when + ": order(1)", x.order(1), 1);
        due(when + ": order(2)", x.order(2), 1);
        due(when + ": order(3)", x.order(3), 0);
    }

    /** A one at index 7 among zeros: order 8. */
    private static void makeLateOne(RecurrenceEngine x, int s) {
        x.define(s, 1, 0, 0);
        due("prepend of 1", x.prepend(s, 1), 1);
        for (int length = 2; length <= 8; length++) {
            due("prepend of 0, number " + length, x.prepend(s, 0), length);
        }
    }

    private static int power(int base, int exponent) {
        int result = 1;
        for (int i = 0; i < exponent; i++) {
            result = result * base % 101;
        }
        return result;
    }

    private static void constants() {
        due("BAD_SEQUENCE", RecurrenceEngine.BAD_SEQUENCE, -1);
        due("BAD_ORDER", RecurrenceEngine.BAD_ORDER, -2);
        due("FULL", RecurrenceEngine.FULL, -3);
        due("BAD_INDEX", RecurrenceEngine.BAD_INDEX, -4);
    }

    private static void newObject() {
        for (int s = 0; s < 4; s++) {
            RecurrenceEngine x = new RecurrenceEngine();
            for (int n = 0; n <= 400; n++) {
                due("new: term(" + s + ", " + n + ")", x.term(s, n), 0);
            }
            due("new: order(" + s + ")", x.order(s), 0);
            due("new: sum(" + s + ", 0, 400)", x.sum(s, 0, 400), 0);
            due("new: find(" + s + ", 0)", x.find(s, 0), 0);
            due("new: equal(0, " + s + ")", x.equal(0, s), true);
        }
        RecurrenceEngine one = filled();
        due("another object: order(0)", new RecurrenceEngine().order(0), 0);
        dueFilled("another object made", one);
    }

    private static void define() {
        RecurrenceEngine x = new RecurrenceEngine();
        due("define of 3^n", x.define(1, 1, 3, 1), 0);
        for (int n = 0; n <= 400; n++) {
            due("3^n: term(1, " + n + ")", x.term(1, n), power(3, n));
        }
        x = new RecurrenceEngine();
        // 1, 2, 3, 4 and on by a(n) = a(n-1) + 2 a(n-2) + 3 a(n-3) + 4 a(n-4)
        int digits = 1 + 101 * (2 + 101 * (3 + 101 * 4));
        due("define with k 4", x.define(3, 4, digits, digits), 0);
        dueTerms("define with k 4", x, 3, 1, 2, 3, 4, 20, 45, 8, 73);
        due("define with k 4: order", x.order(3), 4);
        due("define with k 3", x.define(3, 3, digits, digits), 0);
        dueTerms("define with k 3", x, 3, 1, 2, 3, 10, 22, 51, 24, 91);
        due("define with k 3: order", x.order(3), 3);
        dueTerms("define of 3 leaves 0", x, 0, 0, 0, 0, 0, 0);

        due("define of zeros", x.define(3, 4, digits, 0), 0);
        due("define of zeros: order", x.order(3), 0);
        // 1 2 4 8 .. written with four coefficients has order 1 all the same.
        due("define of 2^n with k 4", x.define(0, 4, 2, 1 + 101 * (2 + 101 * (4 + 101 * 8))), 0);
        due("define of 2^n with k 4: order", x.order(0), 1);
        // With the coefficients 0 the beginning alone stays, and its last term counts for the order.
        due("define of 0 0 5 0", x.define(0, 4, 0, 5 * 101 * 101), 0);
        dueTerms("define of 0 0 5 0", x, 0, 0, 0, 5, 0, 0, 0);
        due("define of 0 0 5 0: order", x.order(0), 3);
    }

    private static void defineDigits() {
        RecurrenceEngine x = new RecurrenceEngine();
        due("digits beyond k", x.define(0, 1, 3 + 101 * 77, 1 + 101 * 55), 0);
        due("digits beyond k", x.define(1, 1, 3, 1), 0);
        due("digits beyond k: equal", x.equal(0, 1), true);

        // -1 without its sign is 2147483647, which has a fifth digit that is not looked at.
        due("define with -1", x.define(0, 4, 0, -1), 0);
        dueTerms("define with -1", x, 0, digit(HIGHEST, 0), digit(HIGHEST, 1), digit(HIGHEST, 2), digit(HIGHEST, 3), 0);
        due("define with -1", x.define(0, 4, -1, -1), 0);
        due("define with the highest", x.define(1, 4, HIGHEST, HIGHEST), 0);
        due("define with -1: equal", x.equal(0, 1), true);
        due("define with -1: order", x.order(0), 4);

        due("define with the lowest", x.define(0, 4, LOWEST, LOWEST), 0);
        due("define with the lowest: order", x.order(0), 0);
        due("define with the lowest + 3", x.define(0, 1, LOWEST + 3, LOWEST + 1), 0);
        dueTerms("define with the lowest + 3", x, 0, 1, 3, 9, 27, 81, 41);
    }

    private static int digit(int number, int place) {
        long rest = number;
        for (int i = 0; i < place; i++) {
            rest = rest / 101;
        }
        return (int) (rest % 101);
    }

    private static void defineRefused() {
        RecurrenceEngine x = filled();
        for (int s : NO_SEQUENCES) {
            due("define of " + s, x.define(s, 1, 3, 1), BAD_SEQUENCE);
            due("define of " + s + " with k 0", x.define(s, 0, 3, 1), BAD_SEQUENCE);
            due("define of " + s + " with k 5", x.define(s, 5, 3, 1), BAD_SEQUENCE);
        }
        for (int k : new int[] {0, 5, -1, LOWEST, HIGHEST}) {
            due("define with k " + k, x.define(0, k, 5, 5), BAD_ORDER);
            due("define with k " + k, x.define(3, k, -1, -1), BAD_ORDER);
        }
        dueFilled("after refused defines", x);
    }

    private static void add() {
        RecurrenceEngine x = filled();
        due("add(3, 0, 1)", x.add(3, 0, 1), 3);
        dueTerms("add(3, 0, 1)", x, 3, 1, 4, 10, 29, 84, 46, 30, 79, 17);
        due("add(3, 0, 1): order", x.order(3), 3);
        due("add(3, 3, 2)", x.add(3, 3, 2), 4);
        dueTerms("add(3, 3, 2)", x, 3, 8, 4, 10, 29, 84, 46, 30, 79, 17);
        due("add(2, 0, 2)", x.add(2, 0, 2), 3);
        dueTerms("add(2, 0, 2)", x, 2, 7, 1, 1, 2, 3, 5, 8);
        due("add(1, 1, 1)", x.add(1, 1, 1), 1);
        dueTerms("add(1, 1, 1)", x, 1, 2, 6, 18, 54, 61, 82);
        dueTerms("add leaves 0", x, 0, 0, 1, 1, 2, 3, 5, 8);

        x.copy(3, 0);
        due("scale(3, -1)", x.scale(3, -1), 2);
        due("add of opposites", x.add(3, 3, 0), 0);
        dueTerms("add of opposites", x, 3, 0, 0, 0, 0, 0);

        x = new RecurrenceEngine();
        makeLateOne(x, 0);
        due("add with order 8 and 0", x.add(1, 0, 3), 8);
        due("add with orders 8 and 8", x.add(1, 0, 1), 8);
        dueTerms("add with orders 8 and 8", x, 1, 0, 0, 0, 0, 0, 0, 0, 2, 0);
        x.define(2, 4, rootCoefficients(1), 1);
        x.define(3, 4, rootCoefficients(5), 1);
        due("add up to order 8", x.add(2, 2, 3), 8);
        due("add up to order 8: order", x.order(2), 8);
    }

    private static void addRefused() {
        RecurrenceEngine x = filled();
        for (int s : NO_SEQUENCES) {
            due("add to " + s, x.add(s, 0, 1), BAD_SEQUENCE);
            due("add of s " + s, x.add(3, s, 1), BAD_SEQUENCE);
            due("add of t " + s, x.add(3, 0, s), BAD_SEQUENCE);
            due("add of " + s + " alone", x.add(s, s, s), BAD_SEQUENCE);
        }
        dueFilled("after refused adds", x);

        makeLateOne(x, 2);
        x.copy(3, 0);
        due("add above 8", x.add(3, 2, 1), FULL);
        due("add above 8 to s", x.add(2, 2, 1), FULL);
        due("add above 8 to t", x.add(1, 2, 1), FULL);
        due("add to no sequence, above 8", x.add(4, 2, 1), BAD_SEQUENCE);
        dueTerms("after add above 8", x, 1, 1, 3, 9, 27, 81, 41, 22, 66, 97, 89);
        dueTerms("after add above 8", x, 2, 0, 0, 0, 0, 0, 0, 0, 1, 0, 0);
        due("after add above 8: order(1)", x.order(1), 1);
        due("after add above 8: order(2)", x.order(2), 8);
        due("after add above 8: order(3)", x.order(3), 2);
        due("after add above 8: equal(3, 0)", x.equal(3, 0), true);
    }

    /** The coefficients of the recurrence that r^n follows for r = first to first + 3. */
    private static int rootCoefficients(int first) {
        int[] product = {1, 0, 0, 0, 0};
        for (int r = first; r < first + 4; r++) {
            for (int i = 4; i >= 1; i--) {
                product[i] = Math.floorMod(product[i] - r * product[i - 1], 101);
            }
        }
        int number = 0;
        for (int i = 4; i >= 1; i--) {
            number = number * 101 + Math.floorMod(-product[i], 101);
        }
        return number;
    }

    /** With these weights the sum over r = 1 to 24 of weight * r^n is 0 for n = 0 to 22, but not for 23. */
    private static int weight(int root) {
        int product = 1;
        for (int r = 1; r <= 24; r++) {
            if (r != root) {
                product = Math.floorMod(product * (root - r), 101);
            }
        }
        return power(product, 99);
    }

    private static int weightedBeginning(int first) {
        int number = 0;
        for (int n = 3; n >= 0; n--) {
            int total = 0;
            for (int r = first; r < first + 4; r++) {
                total = (total + weight(r) * power(r, n)) % 101;
            }
            number = number * 101 + total;
        }
        return number;
    }

    private static void makeWeighted(RecurrenceEngine x, int s, int spare, int first) {
        x.define(s, 4, rootCoefficients(first), weightedBeginning(first));
        x.define(spare, 4, rootCoefficients(first + 4), weightedBeginning(first + 4));
        due("weighted from " + first, x.add(s, s, spare), 8);
    }

    /** Two orders of 8 whose sum has order 16, yet follows a recurrence of order 8 for 23 terms. */
    private static void addOfSumThatLooksShort() {
        RecurrenceEngine x = new RecurrenceEngine();
        makeWeighted(x, 0, 3, 1);
        makeWeighted(x, 1, 3, 9);
        makeWeighted(x, 2, 3, 17);
        due("scale of the third", x.scale(2, -1), 8);
        for (int n = 0; n <= 22; n++) {
            due("sum seems short at " + n, (x.term(0, n) + x.term(1, n)) % 101, x.term(2, n));
        }
        due("sum parts at 23", (x.term(0, 23) + x.term(1, 23)) % 101 == x.term(2, 23), false);
        due("add of a sum that looks short", x.add(3, 0, 1), FULL);
        due("equal of two that are not", x.equal(0, 1), false);
    }

    private static void scale() {
        RecurrenceEngine x = filled();
        due("scale(1, 2)", x.scale(1, 2), 1);
        dueTerms("scale(1, 2)", x, 1, 2, 6, 18, 54, 61, 82);
        due("scale(0, -1)", x.scale(0, -1), 2);
        dueTerms("scale(0, -1)", x, 0, 0, 100, 100, 99, 98, 96);
        due("scale(0, 100)", x.scale(0, 100), 2);
        dueTerms("scale(0, 100)", x, 0, 0, 1, 1, 2, 3, 5);
        due("scale by the lowest", x.scale(0, LOWEST), 2);
        due("scale by the lowest: term(0, 1)", x.term(0, 1), Math.floorMod(LOWEST, 101));
        due("scale by the lowest: term(0, 5)", x.term(0, 5), 5 * Math.floorMod(LOWEST, 101) % 101);
        x = filled();
        due("scale by the highest", x.scale(0, HIGHEST), 2);
        due("scale by the highest: term(0, 5)", x.term(0, 5), 5 * Math.floorMod(HIGHEST, 101) % 101);
        due("scale(1, 0)", x.scale(1, 0), 0);
        due("scale(1, 0): order", x.order(1), 0);
        due("scale(1, 0): equal(1, 3)", x.equal(1, 3), true);
        due("scale(2, -202)", x.scale(2, -202), 0);
        due("scale(3, 5)", x.scale(3, 5), 0);

        x = filled();
        for (int s : NO_SEQUENCES) {
            due("scale of " + s, x.scale(s, 0), BAD_SEQUENCE);
        }
        dueFilled("after refused scales", x);
        makeLateOne(x, 0);
        due("scale of order 8", x.scale(0, 5), 8);
        dueTerms("scale of order 8", x, 0, 0, 0, 0, 0, 0, 0, 0, 5, 0);
    }

    private static void advance() {
        RecurrenceEngine x = filled();
        due("advance(0)", x.advance(0), 2);
        dueTerms("advance(0)", x, 0, 1, 1, 2, 3, 5, 8, 13);
        due("advance(1)", x.advance(1), 1);
        due("advance(1): term(1, 400)", x.term(1, 400), power(3, 401));
        due("advance(2)", x.advance(2), 0);
        dueTerms("advance(2)", x, 2, 0, 0, 0, 0);
        due("advance(3)", x.advance(3), 0);

        x = filled();
        for (int s : NO_SEQUENCES) {
            due("advance of " + s, x.advance(s), BAD_SEQUENCE);
        }
        dueFilled("after refused advances", x);
        makeLateOne(x, 0);
        for (int length = 7; length >= 0; length--) {
            due("advance to order " + length, x.advance(0), length);
        }

        x = filled();
        for (int i = 1; i <= 450; i++) {
            due("advance number " + i, x.advance(1), 1);
        }
        due("450 advances: term(1, 0)", x.term(1, 0), power(3, 450));
        due("450 advances: term(1, 400)", x.term(1, 400), power(3, 850));
    }

    private static void prepend() {
        RecurrenceEngine x = filled();
        due("prepend(0, 1)", x.prepend(0, 1), 2);
        dueTerms("prepend(0, 1)", x, 0, 1, 0, 1, 1, 2, 3, 5);
        due("prepend(0, 17)", x.prepend(0, 17), 3);
        dueTerms("prepend(0, 17)", x, 0, 17, 1, 0, 1, 1, 2, 3, 5);
        // 34 is 1 / 3, so that 3^n goes on backwards.
        due("prepend(1, 34)", x.prepend(1, 34), 1);
        due("prepend(1, 34): term(1, 400)", x.term(1, 400), power(3, 399));
        due("prepend(1, 0)", x.prepend(1, 0), 2);
        due("prepend(3, 0)", x.prepend(3, 0), 0);
        due("prepend(3, 101)", x.prepend(3, 101), 0);
        due("prepend(3, -1)", x.prepend(3, -1), 1);
        due("prepend(3, -1): term", x.term(3, 0), 100);
        due("prepend(3, lowest)", x.prepend(3, LOWEST), 2);
        dueTerms("prepend(3, lowest)", x, 3, Math.floorMod(LOWEST, 101), 100, 0, 0);
        due("prepend(3, highest)", x.prepend(3, HIGHEST), 3);
        dueTerms("prepend(3, highest)", x, 3, Math.floorMod(HIGHEST, 101), Math.floorMod(LOWEST, 101), 100, 0);

        x = filled();
        for (int s : NO_SEQUENCES) {
            due("prepend to " + s, x.prepend(s, 5), BAD_SEQUENCE);
        }
        dueFilled("after refused prepends", x);
        makeLateOne(x, 0);
        due("prepend of 0 above 8", x.prepend(0, 0), FULL);
        due("prepend of 5 above 8", x.prepend(0, 5), FULL);
        dueTerms("after prepend above 8", x, 0, 0, 0, 0, 0, 0, 0, 0, 1, 0);
        due("after prepend above 8: order", x.order(0), 8);

        // 1 / (1 - x)^8 has order 8, and a 0 ahead of it goes with its recurrence.
        x = new RecurrenceEngine();
        makeEightSums(x, 0);
        due("prepend at order 8 that stays", x.prepend(0, 0), 8);
        due("prepend at order 8 that stays: term", x.term(0, 1), 1);
        due("prepend at order 8 that does not", x.prepend(0, 1), FULL);
    }

    /** A one, summed up eight times: order 8. */
    private static void makeEightSums(RecurrenceEngine x, int s) {
        x.define(s, 1, 0, 1);
        due("first accumulate", x.accumulate(s), 1);
        for (int length = 2; length <= 8; length++) {
            due("accumulate number " + length, x.accumulate(s), length);
        }
    }

    private static void accumulate() {
        RecurrenceEngine x = filled();
        due("accumulate(0)", x.accumulate(0), 3);
        dueTerms("accumulate(0)", x, 0, 0, 1, 2, 4, 7, 12, 20, 33, 54, 88, 42, 30, 73);
        due("accumulate(1)", x.accumulate(1), 2);
        dueTerms("accumulate(1)", x, 1, 1, 4, 13, 40, 20, 61, 83);
        due("accumulate(2)", x.accumulate(2), 1);
        dueTerms("accumulate(2)", x, 2, 7, 7, 7, 7, 7);
        due("accumulate(2): term(2, 400)", x.term(2, 400), 7);
        due("accumulate(2) again", x.accumulate(2), 2);
        due("accumulate(2) again: term(2, 400)", x.term(2, 400), 7 * 401 % 101);
        due("accumulate(3)", x.accumulate(3), 0);

        x = filled();
        for (int s : NO_SEQUENCES) {
            due("accumulate of " + s, x.accumulate(s), BAD_SEQUENCE);
        }
        dueFilled("after refused accumulates", x);

        makeEightSums(x, 0);
        due("accumulate above 8", x.accumulate(0), FULL);
        dueTerms("after accumulate above 8", x, 0, 1, 8, 36, 19, 27, 85);
        due("after accumulate above 8: order", x.order(0), 8);
        makeLateOne(x, 0);
        due("accumulate at order 8 that stays", x.accumulate(0), 8);
        dueTerms("accumulate at order 8 that stays", x, 0, 0, 0, 0, 0, 0, 0, 0, 1, 1, 1);
    }

    private static void difference() {
        RecurrenceEngine x = filled();
        due("difference(0)", x.difference(0), 3);
        dueTerms("difference(0)", x, 0, 0, 1, 0, 1, 1, 2, 3, 5);
        due("difference(1)", x.difference(1), 2);
        dueTerms("difference(1)", x, 1, 1, 2, 6, 18, 54, 61, 82);
        due("difference(2)", x.difference(2), 2);
        dueTerms("difference(2)", x, 2, 7, 94, 0, 0, 0);
        due("difference(3)", x.difference(3), 0);
        x.define(3, 1, 1, 5);
        due("difference of a constant", x.difference(3), 1);
        dueTerms("difference of a constant", x, 3, 5, 0, 0, 0);

        x = filled();
        for (int s : NO_SEQUENCES) {
            due("difference of " + s, x.difference(s), BAD_SEQUENCE);
        }
        dueFilled("after refused differences", x);

        makeLateOne(x, 0);
        due("difference above 8", x.difference(0), FULL);
        dueTerms("after difference above 8", x, 0, 0, 0, 0, 0, 0, 0, 0, 1, 0, 0);
        due("after difference above 8: order", x.order(0), 8);
        makeEightSums(x, 0);
        for (int length = 7; length >= 1; length--) {
            due("difference to order " + length, x.difference(0), length);
        }
        dueTerms("seven differences", x, 0, 1, 1, 1, 1, 1);
    }

    private static void copy() {
        RecurrenceEngine x = filled();
        due("copy(3, 0)", x.copy(3, 0), 2);
        due("copy(3, 0): equal", x.equal(3, 0), true);
        due("copy(3, 0): order", x.order(3), 2);
        due("copy(3, 0): term(3, 400)", x.term(3, 400), x.term(0, 400));
        due("copy(1, 1)", x.copy(1, 1), 1);
        dueTerms("copy(1, 1)", x, 1, 1, 3, 9, 27);
        // The copy and what it was made from go their own ways afterwards.
        x.advance(0);
        dueTerms("copy stays", x, 3, 0, 1, 1, 2, 3, 5);
        x.scale(3, 0);
        dueTerms("the copied one stays", x, 0, 1, 1, 2, 3, 5, 8);
        due("copy of zeros", x.copy(0, 3), 0);
        due("copy of zeros: order", x.order(0), 0);

        x = filled();
        for (int s : NO_SEQUENCES) {
            due("copy to " + s, x.copy(s, 0), BAD_SEQUENCE);
            due("copy of " + s, x.copy(0, s), BAD_SEQUENCE);
            due("copy of " + s + " to itself", x.copy(s, s), BAD_SEQUENCE);
        }
        dueFilled("after refused copies", x);
        makeLateOne(x, 0);
        due("copy of order 8", x.copy(1, 0), 8);
    }

    private static void term() {
        RecurrenceEngine x = filled();
        due("term(1, 0)", x.term(1, 0), 1);
        due("term(1, 1)", x.term(1, 1), 3);
        due("term(1, 400)", x.term(1, 400), power(3, 400));
        due("term(1, 399)", x.term(1, 399), power(3, 399));
        for (int n : new int[] {-1, 401, LOWEST, HIGHEST}) {
            due("term(1, " + n + ")", x.term(1, n), BAD_INDEX);
        }
        for (int s : NO_SEQUENCES) {
            due("term(" + s + ", 0)", x.term(s, 0), BAD_SEQUENCE);
            due("term(" + s + ", -1)", x.term(s, -1), BAD_SEQUENCE);
            due("term(" + s + ", 401)", x.term(s, 401), BAD_SEQUENCE);
        }
        dueFilled("after terms", x);
    }

    private static void order() {
        RecurrenceEngine x = filled();
        for (int s : NO_SEQUENCES) {
            due("order(" + s + ")", x.order(s), BAD_SEQUENCE);
        }
        dueFilled("after orders", x);
        makeLateOne(x, 3);
        due("order(3)", x.order(3), 8);
    }

    private static void equal() {
        RecurrenceEngine x = filled();
        for (int s = 0; s < 4; s++) {
            for (int t = 0; t < 4; t++) {
                due("equal(" + s + ", " + t + ")", x.equal(s, t), s == t);
            }
        }
        for (int s : NO_SEQUENCES) {
            due("equal(" + s + ", 0)", x.equal(s, 0), false);
            due("equal(0, " + s + ")", x.equal(0, s), false);
            due("equal(" + s + ", " + s + ")", x.equal(s, s), false);
        }
        dueFilled("after equals", x);
        makeLateOne(x, 0);
        due("equal of a late one and zeros", x.equal(0, 3), false);
        x.define(1, 1, 1, 7);
        x.accumulate(2);
        due("equal of the same made in two ways", x.equal(1, 2), true);
    }

    private static void sum() {
        RecurrenceEngine x = filled();
        due("sum(0, 0, 0)", x.sum(0, 0, 0), 0);
        due("sum(0, 3, 3)", x.sum(0, 3, 3), 2);
        due("sum(0, 0, 6)", x.sum(0, 0, 6), 20);
        due("sum(0, 9, 11)", x.sum(0, 9, 11), 178 - 101);
        // 1 + 3 + .. + 3^400 is (3^401 - 1) / 2, and 51 is 1 / 2.
        due("sum(1, 0, 400)", x.sum(1, 0, 400), (power(3, 401) + 100) * 51 % 101);
        due("sum(1, 400, 400)", x.sum(1, 400, 400), power(3, 400));
        due("sum(2, 0, 400)", x.sum(2, 0, 400), 7);
        due("sum(2, 1, 400)", x.sum(2, 1, 400), 0);
        for (int n : new int[] {-1, 401, LOWEST, HIGHEST}) {
            due("sum(0, " + n + ", 5)", x.sum(0, n, 5), BAD_INDEX);
            due("sum(0, 5, " + n + ")", x.sum(0, 5, n), BAD_INDEX);
            due("sum(0, " + n + ", " + n + ")", x.sum(0, n, n), BAD_INDEX);
        }
        due("sum(0, 6, 5)", x.sum(0, 6, 5), BAD_INDEX);
        due("sum(0, 400, 0)", x.sum(0, 400, 0), BAD_INDEX);
        for (int s : NO_SEQUENCES) {
            due("sum(" + s + ", 0, 1)", x.sum(s, 0, 1), BAD_SEQUENCE);
            due("sum(" + s + ", 1, 0)", x.sum(s, 1, 0), BAD_SEQUENCE);
            due("sum(" + s + ", -1, 401)", x.sum(s, -1, 401), BAD_SEQUENCE);
        }
        dueFilled("after sums", x);
    }

    private static void find() {
        RecurrenceEngine x = filled();
        due("find(0, 0)", x.find(0, 0), 0);
        due("find(0, 1)", x.find(0, 1), 1);
        due("find(0, 13)", x.find(0, 13), 7);
        due("find(0, 13 + 101)", x.find(0, 114), 7);
        due("find(0, 13 - 101)", x.find(0, -88), 7);
        due("find(1, 3)", x.find(1, 3), 1);
        due("find(1, 0)", x.find(1, 0), BAD_INDEX);
        due("find(2, 0)", x.find(2, 0), 1);
        due("find(2, 8)", x.find(2, 8), BAD_INDEX);
        due("find(3, 1)", x.find(3, 1), BAD_INDEX);
        due("find(3, -101)", x.find(3, -101), 0);
        x.define(3, 1, 1, Math.floorMod(LOWEST, 101));
        due("find(3, lowest)", x.find(3, LOWEST), 0);
        x.define(3, 1, 1, Math.floorMod(HIGHEST, 101));
        due("find(3, highest)", x.find(3, HIGHEST), 0);
        x.scale(3, 0);
        for (int s : NO_SEQUENCES) {
            due("find(" + s + ", 0)", x.find(s, 0), BAD_SEQUENCE);
            due("find(" + s + ", -1)", x.find(s, -1), BAD_SEQUENCE);
        }
        dueFilled("after finds", x);
        findAtTheEnd();
    }

    /** A value that shows first at index 400 is found there, but not once a term is put ahead. */
    private static void findAtTheEnd() {
        RecurrenceEngine x = new RecurrenceEngine();
        int[] late = lateValue();
        x.define(0, 3, late[0], late[1]);
        due("find at the end", x.find(0, late[2]), 400);
        x.prepend(0, late[2] + 1);
        due("find beyond the end", x.find(0, late[2]), BAD_INDEX);
        x.advance(0);
        x.advance(0);
        due("find one ahead of the end", x.find(0, late[2]), 399);
    }

    /** Coefficients, beginning and a value that the sequence shows first at index 400. */
    private static int[] lateValue() {
        for (int coefficients = 101 * 101; coefficients < 101 * 101 * 101; coefficients += 7) {
            int beginning = 1 + 101 * (coefficients % 89);
            int[] first = firstIndices(coefficients, beginning);
            for (int value = 0; value < 101; value++) {
                if (first[value] == 400) {
                    return new int[] {coefficients, beginning, value};
                }
            }
        }
        throw new IllegalStateException("no sequence with a late value");
    }

    private static int[] firstIndices(int coefficients, int beginning) {
        int[] first = new int[101];
        java.util.Arrays.fill(first, -1);
        int[] a = new int[401];
        for (int n = 0; n <= 400; n++) {
            if (n < 3) {
                a[n] = digit(beginning, n);
            } else {
                int total = 0;
                for (int i = 1; i <= 3; i++) {
                    total += digit(coefficients, i - 1) * a[n - i];
                }
                a[n] = total % 101;
            }
            if (first[a[n]] < 0) {
                first[a[n]] = n;
            }
        }
        return first;
    }
}
