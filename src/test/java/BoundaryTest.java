import java.util.Arrays;

/**
 * One test for each sentence of the document that names a boundary case, under the words of that sentence.
 *
 * An object is promised 512 calls, which is too few to read all four sequences whole: a test that needs
 * more says its calls once, and they are made anew on an object for each sequence that is read.
 */
public final class BoundaryTest {
    private static final int BAD_SEQUENCE = RecurrenceEngine.BAD_SEQUENCE;
    private static final int BAD_ORDER = RecurrenceEngine.BAD_ORDER;
    private static final int FULL = RecurrenceEngine.FULL;
    private static final int BAD_INDEX = RecurrenceEngine.BAD_INDEX;
    private static final int LOWEST = Integer.MIN_VALUE;
    private static final int HIGHEST = Integer.MAX_VALUE;
    private static final int CALLS = 512;
    private static final int THIRD = 34;
    private static final int HALF = 51;

    private static final int[] NO_SEQUENCES = {-1, 4, 5, -4, LOWEST, HIGHEST};
    private static final int[] NO_INDICES = {-1, 401, 402, -400, LOWEST, HIGHEST};
    /** Numbers next to a place where a remainder turns over, and the ends of int. */
    private static final int[] NUMBERS = {0, 1, 50, 51, 99, 100, 101, 102, 201, 202, 203, HIGHEST - 1, HIGHEST,
        -1, -2, -50, -51, -99, -100, -101, -102, -201, -202, -203, LOWEST + 1, LOWEST};

    private interface Calls {
        void on(RecurrenceEngine x);
    }

    private interface Ask {
        int of(RecurrenceEngine x);
    }

    private static String sentence = "";
    private static int wrong = 0;

    public static void main(String[] args) {
        whatItIs();
        terms();
        aheadOfTheCalls();
        promises1And2();
        promises3To5();
        promises6To8();
        promises9To11();
        promises12To14();
        if (wrong != 0) {
            System.out.println(wrong + " answers are not as due");
            System.exit(1);
        }
    }

    private static void whatItIs() {
        test("What it is: at most 512 calls: the same call 510 times", BoundaryTest::sameCallToTheEnd);
        test("What it is: at most 512 calls: refused calls and questions", BoundaryTest::idleCallsToTheEnd);
        test("What it is: at most 512 calls: each call as the last", BoundaryTest::eachCallAsTheLast);
        test("The public face: the constants", BoundaryTest::constants);
    }

    private static void terms() {
        test("Terms: four SEQUENCES (0 to 3)", BoundaryTest::fourSequences);
        test("Terms: an endless list of terms", BoundaryTest::endlessList);
        test("Terms: from 0 to 100", BoundaryTest::termsInRange);
        test("Terms: the least L from 0 on", BoundaryTest::leastOrder);
        test("Terms: for every n from L on", BoundaryTest::everyTermFromTheOrderOn);
        test("Terms: 0 only for all zeros", BoundaryTest::orderOfZeros);
        test("Terms: it is at most 8", BoundaryTest::atMostEight);
        test("Terms: also for negative arguments: scale", BoundaryTest::scaleByNumbers);
        test("Terms: also for negative arguments: prepend", BoundaryTest::prependNumbers);
        test("Terms: also for negative arguments: find", BoundaryTest::findNumbers);
    }

    private static void aheadOfTheCalls() {
        test("Ahead: tests in the order in which they are named", BoundaryTest::orderOfTests);
        test("Ahead: a refused call changes nothing: BAD_SEQUENCE", BoundaryTest::badSequenceChangesNothing);
        test("Ahead: a refused call changes nothing: BAD_ORDER", BoundaryTest::badOrderChangesNothing);
        test("Ahead: a refused call changes nothing: FULL", BoundaryTest::fullChangesNothing);
        test("Ahead: s, t and to: one not in 0 to 3", BoundaryTest::notASequence);
        test("Ahead: the calls below change nothing", BoundaryTest::questionsChangeNothing);
    }

    private static void promises1And2() {
        test("1: all terms of all sequences are 0", BoundaryTest::newObject);
        test("2: begins with b0 .. b(k-1), goes on for n from k on", BoundaryTest::beginningAndFirstTermAfter);
        test("2: c1 and b0 being the lowest digits", BoundaryTest::lowestDigitsFirst);
        test("2: digits in base 101", BoundaryTest::greatestDigits);
        test("2: both are taken without sign (x & 2147483647)", BoundaryTest::withoutSign);
        test("2: what lies beyond k digits is not looked at", BoundaryTest::beyondDigits);
        test("2: k not in 1 to 4: BAD_ORDER", BoundaryTest::orderOfDefine);
        test("2: else answers 0", BoundaryTest::defineAnswersZero);
    }

    private static void promises3To5() {
        test("3: the terms of s and t added up", BoundaryTest::addWrapsAround);
        test("3: to, s and t may be the same", BoundaryTest::addOntoItself);
        test("3: its order would be above 8: FULL", BoundaryTest::addAboveEight);
        test("3: its order would be above 8, though it begins as if not", BoundaryTest::addThatLooksShort);
        test("3: else answers its order", BoundaryTest::addAnswersOrder);
        test("4: every term of s is multiplied by x", BoundaryTest::scaleEveryTerm);
        test("4: else answers its order", BoundaryTest::scaleAnswersOrder);
        test("5: sequence s loses its first term", BoundaryTest::advanceLosesFirst);
        test("5: else answers its order", BoundaryTest::advanceAnswersOrder);
    }

    private static void promises6To8() {
        test("6: a new first term, all others moving on by one", BoundaryTest::prependMovesOn);
        test("6: its order would be above 8: FULL", BoundaryTest::prependAboveEight);
        test("6: else answers its order", BoundaryTest::prependAnswersOrder);
        test("7: up to it, itself counted in", BoundaryTest::accumulateCountsItself);
        test("7: its order would be above 8: FULL", BoundaryTest::accumulateAboveEight);
        test("7: else answers its order", BoundaryTest::accumulateAnswersOrder);
        test("8: less what term n - 1 was", BoundaryTest::differenceWrapsAround);
        test("8: term 0 stays", BoundaryTest::differenceKeepsFirst);
        test("8: its order would be above 8: FULL", BoundaryTest::differenceAboveEight);
        test("8: else answers its order", BoundaryTest::differenceAnswersOrder);
    }

    private static void promises9To11() {
        test("9: 'to' becomes the same as s", BoundaryTest::copyIsTheSame);
        test("9: else answers its order", BoundaryTest::copyAnswersOrder);
        test("10: term n, up to 400", BoundaryTest::firstAndLastTerm);
        test("10: n not in 0 to 400: BAD_INDEX", BoundaryTest::termOutOfReach);
        test("11: the order, from 0 to 8", BoundaryTest::everyOrder);
        test("11: BAD_SEQUENCE", BoundaryTest::orderOfNoSequence);
    }

    private static void promises12To14() {
        test("12: whether all terms of both are the same", BoundaryTest::equalInAllTerms);
        test("12: false if one is not in 0 to 3", BoundaryTest::equalOfNoSequence);
        test("13: from first to last, modulo 101", BoundaryTest::sumWithBothEnds);
        test("13: first or last not in 0 to 400: BAD_INDEX", BoundaryTest::sumOutOfReach);
        test("13: first above last: BAD_INDEX", BoundaryTest::sumTurnedRound);
        test("14: the first index", BoundaryTest::findTheFirst);
        test("14: 0 to 400", BoundaryTest::findAtBothEnds);
        test("14: BAD_INDEX if there is none", BoundaryTest::findNothing);
    }

    // ---- how a test is run, and what is due

    private static void test(String words, Runnable body) {
        sentence = words;
        try {
            body.run();
        } catch (RuntimeException e) {
            wrong++;
            System.out.println("[" + sentence + "] threw " + e);
        }
    }

    private static void due(String call, int got, int want) {
        if (got != want) {
            wrong++;
            System.out.println("[" + sentence + "] " + call + " answered " + got + ", due is " + want);
        }
    }

    private static void due(String call, boolean got, boolean want) {
        due(call, got ? 1 : 0, want ? 1 : 0);
    }

    private static void dueSame(String what, int[] got, int[] want) {
        if (!Arrays.equals(got, want)) {
            wrong++;
            int at = Arrays.mismatch(got, want);
            System.out.println("[" + sentence + "] " + what + " is not as due from place " + at + " on: "
                + Arrays.toString(Arrays.copyOfRange(got, at, Math.min(at + 8, got.length))));
        }
    }

    private static void dueTerms(String what, RecurrenceEngine x, int s, int... want) {
        int[] got = new int[want.length];
        for (int n = 0; n < want.length; n++) {
            got[n] = x.term(s, n);
        }
        dueSame(what + ": the beginning of " + s, got, want);
    }

    /** The terms 0 to 400 of a sequence after these calls on a new object. */
    private static int[] read(Calls calls, int s) {
        RecurrenceEngine x = new RecurrenceEngine();
        calls.on(x);
        int[] list = new int[401];
        for (int n = 0; n <= 400; n++) {
            list[n] = x.term(s, n);
        }
        return list;
    }

    /** All that can be told of an object after these calls: four times the order and the terms. */
    private static int[] state(Calls calls) {
        int[] all = new int[4 * 402];
        for (int s = 0; s < 4; s++) {
            RecurrenceEngine x = new RecurrenceEngine();
            calls.on(x);
            all[s * 402] = x.order(s);
            System.arraycopy(read(calls, s), 0, all, s * 402 + 1, 401);
        }
        return all;
    }

    // ---- numbers and sequences to test with

    private static int mod(long number) {
        return (int) Math.floorMod(number, 101L);
    }

    private static int power(int base, int exponent) {
        int result = 1;
        for (int i = 0; i < exponent; i++) {
            result = mod((long) result * base);
        }
        return result;
    }

    /** The number with these digits, the lowest one first. */
    private static int number(int... digits) {
        int result = 0;
        for (int i = digits.length - 1; i >= 0; i--) {
            result = result * 101 + digits[i];
        }
        return result;
    }

    private static int[] fibonacci(int count) {
        int[] list = new int[count];
        list[1] = 1;
        for (int n = 2; n < count; n++) {
            list[n] = mod(list[n - 1] + list[n - 2]);
        }
        return list;
    }

    private static int[] powersOf(int base, int count) {
        int[] list = new int[count];
        for (int n = 0; n < count; n++) {
            list[n] = power(base, n);
        }
        return list;
    }

    private static void makeFibonacci(RecurrenceEngine x, int s) {
        x.define(s, 2, number(1, 1), number(0, 1));
    }

    private static void makePowers(RecurrenceEngine x, int s, int base) {
        x.define(s, 1, base, 1);
    }

    private static void makeConstant(RecurrenceEngine x, int s, int value) {
        x.define(s, 1, 1, value);
    }

    /** Zeros, but for a one at the place: the order is the place + 1. */
    private static void makeOneAt(RecurrenceEngine x, int s, int place) {
        x.define(s, 1, 0, 1);
        for (int i = 0; i < place; i++) {
            x.prepend(s, 0);
        }
    }

    /** A one and zeros, summed up so many times: the order is that count (from 1 on). */
    private static void makeSums(RecurrenceEngine x, int s, int count) {
        x.define(s, 1, 0, 1);
        for (int i = 0; i < count; i++) {
            x.accumulate(s);
        }
    }

    /** Term n is the sum of factor * r^n for r from first on: the order is the count of the r. */
    private static void makeRoots(RecurrenceEngine x, int s, int spare, int first, int count, int factor) {
        x.define(s, 1, 0, 0);
        for (int r = first; r < first + count; r++) {
            x.define(spare, 1, r, mod(factor));
            x.add(s, s, spare);
        }
    }

    /** The sum over r = 1 to roots of weight * r^n is 0 for all n below roots - 1, and 1 at that n. */
    private static int weight(int root, int roots) {
        int product = 1;
        for (int r = 1; r <= roots; r++) {
            product = r == root ? product : mod((long) product * (root - r));
        }
        return power(product, 99);
    }

    private static void makeWeighted(RecurrenceEngine x, int s, int spare, int first, int roots, int factor) {
        x.define(s, 1, 0, 0);
        for (int r = first; r < first + 8; r++) {
            x.define(spare, 1, r, mod((long) factor * weight(r, roots)));
            x.add(s, s, spare);
        }
    }

    /** Four sequences that no call takes for another one; the first two have order 8 and share no root. */
    private static void makeFour(RecurrenceEngine x) {
        makeSums(x, 0, 8);
        makeOneAt(x, 1, 7);
        makeFibonacci(x, 2);
        makePowers(x, 3, 3);
    }

    private static void changeFour(RecurrenceEngine x) {
        due("add after it", x.add(3, 2, 3), 3);
        due("difference after it", x.difference(0), 7);
        due("scale after it", x.scale(1, 5), 8);
        due("accumulate after it", x.accumulate(2), 3);
        due("advance after it", x.advance(1), 7);
        due("prepend after it", x.prepend(2, 9), 4);
    }

    private static void dueNoChange(String call, Calls calls) {
        dueSame(call + ": what it left", state(x -> {
            makeFour(x);
            calls.on(x);
        }), state(BoundaryTest::makeFour));
        // What a refused call left behind unseen would show in the calls that come after it.
        dueSame(call + ": what later calls made", state(x -> {
            makeFour(x);
            calls.on(x);
            changeFour(x);
        }), state(x -> {
            makeFour(x);
            changeFour(x);
        }));
    }

    private static void dueRefused(String call, Ask ask, int want) {
        dueNoChange(call, x -> due(call, ask.of(x), want));
    }

    // ---- What it is

    private static void repeat(RecurrenceEngine x, int times, Calls calls) {
        for (int i = 0; i < times; i++) {
            calls.on(x);
        }
    }

    private static void sameCallToTheEnd() {
        RecurrenceEngine x = new RecurrenceEngine();
        makePowers(x, 0, 3);
        repeat(x, 510, y -> due("advance", y.advance(0), 1));
        due("term after 510 advances", x.term(0, 400), power(3, 910));

        x = new RecurrenceEngine();
        makePowers(x, 1, 3);
        for (int i = 1; i <= 510; i++) {
            due("prepend number " + i, x.prepend(1, power(THIRD, i)), 1);
        }
        due("term after 510 prepends", x.term(1, 400), power(THIRD, 110));

        x = new RecurrenceEngine();
        makeFibonacci(x, 2);
        repeat(x, 255, y -> {
            due("accumulate", y.accumulate(2), 3);
            due("difference", y.difference(2), 2);
        });
        due("term after 255 accumulates and differences", x.term(2, 397), 2);

        x = new RecurrenceEngine();
        makePowers(x, 3, 3);
        repeat(x, 510, y -> due("scale", y.scale(3, 2), 1));
        due("term after 510 scales", x.term(3, 400), mod((long) power(3, 400) * power(2, 510)));

        x = new RecurrenceEngine();
        makePowers(x, 3, 3);
        for (int i = 1; i <= 510; i++) {
            due("add number " + i, x.add(2, 2, 3), i % 101 == 0 ? 0 : 1);
        }
        due("term after 510 adds", x.term(2, 400), mod(510L * power(3, 400)));

        x = new RecurrenceEngine();
        makePowers(x, 0, 3);
        for (int i = 0; i < 510; i++) {
            due("copy number " + i, x.copy((i + 1) % 4, i % 4), 1);
        }
        due("term after 510 copies", x.term(2, 400), power(3, 400));

        x = new RecurrenceEngine();
        for (int i = 0; i < 511; i++) {
            due("define number " + i, x.define(3, 1 + i % 4, 2 + i % 97, 1), 0);
        }
        due("term after 511 defines", x.term(3, 2), 0);
    }

    private static void idleCallsToTheEnd() {
        RecurrenceEngine x = new RecurrenceEngine();
        makeFour(x);
        for (int i = 0; i < 70; i++) {
            due("define of none", x.define(4, 1, 1, 1), BAD_SEQUENCE);
            due("define with k 5", x.define(3, 5, 1, 1), BAD_ORDER);
            due("add above 8", x.add(3, 0, 1), FULL);
            due("prepend above 8", x.prepend(0, 1), FULL);
            due("accumulate above 8", x.accumulate(0), FULL);
            due("difference above 8", x.difference(1), FULL);
            due("find of 0", x.find(3, 0), BAD_INDEX);
        }
        due("order near the end", x.order(3), 1);
        due("equal near the end", x.equal(3, 2), false);
        due("term at the end", x.term(3, 400), power(3, 400));

        x = new RecurrenceEngine();
        makeFibonacci(x, 2);
        for (int i = 0; i < 102; i++) {
            due("term", x.term(2, 7), 13);
            due("order", x.order(2), 2);
            due("equal", x.equal(2, 2), true);
            due("sum", x.sum(2, 0, 6), 20);
            due("find", x.find(2, 13), 7);
        }
        due("term at the end", x.term(2, 397), 2);
    }

    /** An object that has had all its calls but one: nineteen of makeFour, the others of every kind. */
    private static RecurrenceEngine beforeTheLast() {
        RecurrenceEngine x = new RecurrenceEngine();
        makeFour(x);
        int made = 19;
        for (; made + 8 < CALLS; made += 8) {
            x.advance(3);
            x.scale(3, THIRD);
            x.accumulate(2);
            x.difference(2);
            x.add(3, 0, 1);
            x.copy(1, 1);
            x.term(3, 400);
            x.order(3);
        }
        for (; made + 1 < CALLS; made++) {
            x.find(3, 5);
        }
        return x;
    }

    private static void eachCallAsTheLast() {
        due("define", beforeTheLast().define(0, 4, 1, 1), 0);
        due("define with k 0", beforeTheLast().define(0, 0, 1, 1), BAD_ORDER);
        due("add", beforeTheLast().add(0, 2, 3), 3);
        due("add above 8", beforeTheLast().add(2, 0, 3), FULL);
        due("scale", beforeTheLast().scale(2, 0), 0);
        due("advance", beforeTheLast().advance(1), 7);
        due("prepend", beforeTheLast().prepend(3, 7), 2);
        due("prepend above 8", beforeTheLast().prepend(1, 0), FULL);
        due("accumulate", beforeTheLast().accumulate(2), 3);
        due("accumulate above 8", beforeTheLast().accumulate(0), FULL);
        due("difference", beforeTheLast().difference(0), 7);
        due("difference above 8", beforeTheLast().difference(1), FULL);
        due("copy", beforeTheLast().copy(3, 2), 2);
        due("term", beforeTheLast().term(3, 400), power(3, 400));
        due("term of none", beforeTheLast().term(4, 400), BAD_SEQUENCE);
        due("order", beforeTheLast().order(1), 8);
        due("equal", beforeTheLast().equal(0, 1), false);
        due("equal to itself", beforeTheLast().equal(3, 3), true);
        due("sum", beforeTheLast().sum(2, 0, 6), 20);
        due("find", beforeTheLast().find(2, 13), 7);
    }

    private static void constants() {
        due("BAD_SEQUENCE", BAD_SEQUENCE, -1);
        due("BAD_ORDER", BAD_ORDER, -2);
        due("FULL", FULL, -3);
        due("BAD_INDEX", BAD_INDEX, -4);
    }

    // ---- Terms

    private static void fourSequences() {
        for (int s = 0; s < 4; s++) {
            int own = s;
            int other = (s + 1) % 4;
            Calls calls = x -> {
                due("define of " + own, x.define(own, 2, number(1, 1), number(0, 1)), 0);
                due("scale of " + own, x.scale(own, 1), 2);
                due("advance of " + own, x.advance(own), 2);
                due("prepend to " + own, x.prepend(own, 0), 2);
                due("accumulate of " + own, x.accumulate(own), 3);
                due("difference of " + own, x.difference(own), 2);
                due("add with " + own, x.add(own, own, other), 2);
                due("copy of " + own, x.copy(own, own), 2);
                due("order of " + own, x.order(own), 2);
                due("sum of " + own, x.sum(own, 0, 6), 20);
                due("find in " + own, x.find(own, 13), 7);
                due("equal of " + own, x.equal(own, own), true);
            };
            dueSame("terms of " + s, read(calls, s), fibonacci(401));
            for (int t = 0; t < 4; t++) {
                if (t != s) {
                    dueSame("terms of " + t + ", not of " + s, read(calls, t), new int[401]);
                }
            }
        }
    }

    private static void endlessList() {
        RecurrenceEngine x = new RecurrenceEngine();
        makeRoots(x, 0, 3, 2, 4, 1);
        for (int i = 0; i < 401; i++) {
            x.advance(0);
        }
        for (int n = 0; n < 12; n++) {
            int want = 0;
            for (int r = 2; r < 6; r++) {
                want = mod(want + power(r, n + 401));
            }
            due("term " + (n + 401) + " of four powers", x.term(0, n), want);
        }
    }

    private static void dueInRange(String what, Calls calls) {
        for (int s = 0; s < 4; s++) {
            int[] list = read(calls, s);
            for (int n = 0; n <= 400; n++) {
                due(what + ": term " + n + " of " + s + " in range", list[n] >= 0 && list[n] <= 100, true);
            }
        }
    }

    private static void termsInRange() {
        dueInRange("digits of the greatest number", x -> x.define(0, 4, HIGHEST, HIGHEST));
        dueInRange("digits of 100", x -> x.define(1, 4, number(100, 100, 100, 100), number(100, 100, 100, 100)));
        dueInRange("add of 100 and 100", x -> {
            makeConstant(x, 0, 100);
            x.add(1, 0, 0);
        });
        dueInRange("difference of 0 and 100", x -> {
            x.define(0, 2, number(0, 1), number(100, 0));
            x.difference(0);
        });
        for (int number : NUMBERS) {
            dueInRange("scale and prepend with " + number, x -> {
                makeFour(x);
                x.scale(2, number);
                x.prepend(3, number);
            });
        }
    }

    private static void leastOrder() {
        RecurrenceEngine x = new RecurrenceEngine();
        x.define(0, 4, number(2, 0, 0, 0), number(1, 2, 4, 8));
        due("order of 1 2 4 8 .. told with four coefficients", x.order(0), 1);
        x.define(0, 4, number(0, 4, 0, 0), number(1, 2, 4, 8));
        due("order of 1 2 4 8 .. told by the last but one", x.order(0), 1);
        x.define(0, 3, number(2, 0, 100), number(0, 1, 1));
        due("order of 0 1 1 2 .. told with three coefficients", x.order(0), 2);
        x.define(0, 4, number(0, 0, 0, 1), number(5, 5, 5, 5));
        due("order of 5 5 5 5 .. told with four coefficients", x.order(0), 1);
        x.define(0, 4, number(0, 0, 0, 1), number(5, 6, 5, 6));
        due("order of 5 6 5 6 .. told with four coefficients", x.order(0), 2);
        x.define(0, 4, number(0, 0, 0, 1), number(5, 5, 5, 6));
        due("order of 5 5 5 6 ..", x.order(0), 4);
        makeSums(x, 1, 8);
        for (int order = 7; order >= 1; order--) {
            due("order after a difference", x.difference(1), order);
        }
    }

    /** The recurrence may begin late, so that early terms count though their coefficient is 0. */
    private static void everyTermFromTheOrderOn() {
        RecurrenceEngine x = new RecurrenceEngine();
        for (int place = 0; place < 8; place++) {
            makeOneAt(x, 0, place);
            due("order of a one at " + place, x.order(0), place + 1);
        }
        makePowers(x, 1, 3);
        due("order of 1, 1, 3, 9 ..", x.prepend(1, 1), 2);
        due("order of 0, 1, 1, 3, 9 ..", x.prepend(1, 0), 3);
        x.define(2, 3, number(3, 0, 0), number(7, 7, 7));
        due("order of 7, 7, 7, 21 ..", x.order(2), 3);
        x.define(2, 4, 0, number(0, 0, 9, 0));
        due("order of 0, 0, 9, 0 ..", x.order(2), 3);
        x.define(2, 4, 0, number(1, 2, 3, 4));
        due("order of 1, 2, 3, 4, 0 ..", x.order(2), 4);
    }

    private static void dueZeros(String what, Calls calls) {
        RecurrenceEngine x = new RecurrenceEngine();
        calls.on(x);
        due(what + ": order", x.order(0), 0);
        dueSame(what + ": terms", read(calls, 0), new int[401]);
    }

    private static void orderOfZeros() {
        dueZeros("a new one", x -> due("order", x.order(0), 0));
        dueZeros("beginning 0", x -> due("define", x.define(0, 4, number(1, 2, 3, 4), 0), 0));
        dueZeros("beginning beyond k", x -> due("define", x.define(0, 1, 5, 101 * 7), 0));
        dueZeros("prepend of 0", x -> due("prepend", x.prepend(0, 0), 0));
        dueZeros("prepend of 101", x -> due("prepend", x.prepend(0, -101), 0));
        dueZeros("accumulate of zeros", x -> due("accumulate", x.accumulate(0), 0));
        dueZeros("difference of zeros", x -> due("difference", x.difference(0), 0));
        dueZeros("advance of zeros", x -> due("advance", x.advance(0), 0));
        dueZeros("add of zeros", x -> due("add", x.add(0, 1, 2), 0));
        dueZeros("the only term lost", x -> {
            x.prepend(0, 7);
            due("advance", x.advance(0), 0);
        });
        dueZeros("scale by 0", x -> {
            makeFour(x);
            due("scale", x.scale(0, 0), 0);
        });
        dueZeros("copy of zeros", x -> {
            makePowers(x, 0, 3);
            due("copy", x.copy(0, 1), 0);
        });
        dueZeros("add of opposites", x -> {
            makeFour(x);
            x.copy(2, 0);
            x.scale(2, -1);
            due("add", x.add(0, 0, 2), 0);
        });
        RecurrenceEngine x = new RecurrenceEngine();
        for (int place = 0; place < 8; place++) {
            makeOneAt(x, 0, place);
            due("order 0 though a one at " + place, x.order(0) == 0, false);
        }
        makeWeighted(x, 1, 3, 1, 8, 1);
        due("order of one that begins with seven zeros", x.order(1), 8);
        dueTerms("one that begins with seven zeros", x, 1, 0, 0, 0, 0, 0, 0, 0, 1);
    }

    private static void atMostEight() {
        RecurrenceEngine x = new RecurrenceEngine();
        makeRoots(x, 0, 3, 2, 7, 1);
        makePowers(x, 1, 9);
        due("add up to 8", x.add(0, 0, 1), 8);
        makePowers(x, 1, 10);
        due("add up to 9", x.add(0, 0, 1), FULL);
        due("accumulate up to 9", x.accumulate(0), FULL);
        due("difference up to 9", x.difference(0), FULL);
        due("prepend up to 9", x.prepend(0, 1), FULL);
        due("scale at 8", x.scale(0, 3), 8);
        due("advance at 8", x.advance(0), 8);
        due("copy at 8", x.copy(2, 0), 8);
        due("order at 8", x.order(2), 8);
        makeRoots(x, 0, 3, 2, 7, 1);
        due("accumulate up to 8", x.accumulate(0), 8);
        makeRoots(x, 0, 3, 2, 7, 1);
        due("difference up to 8", x.difference(0), 8);
        makeRoots(x, 0, 3, 2, 7, 1);
        due("prepend up to 8", x.prepend(0, 1), 8);
    }

    private static void scaleByNumbers() {
        for (int number : NUMBERS) {
            int[] want = fibonacci(401);
            for (int n = 0; n <= 400; n++) {
                want[n] = mod((long) want[n] * number);
            }
            dueSame("terms scaled by " + number, read(x -> {
                makeFibonacci(x, 0);
                due("scale by " + number, x.scale(0, number), mod(number) == 0 ? 0 : 2);
            }, 0), want);
        }
    }

    private static void prependNumbers() {
        for (int number : NUMBERS) {
            RecurrenceEngine x = new RecurrenceEngine();
            makeConstant(x, 0, 100);
            due("prepend of " + number, x.prepend(0, number), mod(number) == 100 ? 1 : 2);
            dueTerms("prepend of " + number, x, 0, mod(number), 100, 100, 100);
        }
    }

    private static void findNumbers() {
        for (int number : NUMBERS) {
            RecurrenceEngine x = new RecurrenceEngine();
            x.define(0, 4, 0, number(mod(number + 1L), mod(number + 2L), mod(number), mod(number + 3L)));
            due("find of " + number, x.find(0, number), 2);
            makeConstant(x, 1, mod(number + 1L));
            due("find of " + number + " where it is not", x.find(1, number), BAD_INDEX);
        }
    }

    // ---- what stands ahead of the calls

    private static void orderOfTests() {
        RecurrenceEngine x = new RecurrenceEngine();
        makeFour(x);
        for (int s : NO_SEQUENCES) {
            due("define of " + s + " with k 0", x.define(s, 0, 1, 1), BAD_SEQUENCE);
            due("define of " + s + " with k 5", x.define(s, 5, 1, 1), BAD_SEQUENCE);
            due("add above 8 to " + s, x.add(s, 0, 1), BAD_SEQUENCE);
            due("term 401 of " + s, x.term(s, 401), BAD_SEQUENCE);
            due("term -1 of " + s, x.term(s, -1), BAD_SEQUENCE);
            due("sum from -1 in " + s, x.sum(s, -1, 0), BAD_SEQUENCE);
            due("sum to 401 in " + s, x.sum(s, 0, 401), BAD_SEQUENCE);
            due("sum turned round in " + s, x.sum(s, 1, 0), BAD_SEQUENCE);
            due("find of a lacking value in " + s, x.find(s, 0), BAD_SEQUENCE);
        }
    }

    private static void badSequenceChangesNothing() {
        for (int s : NO_SEQUENCES) {
            dueRefused("define of " + s, x -> x.define(s, 1, 2, 3), BAD_SEQUENCE);
            dueRefused("define of " + s + " with k 9", x -> x.define(s, 9, 2, 3), BAD_SEQUENCE);
            dueRefused("add to " + s, x -> x.add(s, 2, 3), BAD_SEQUENCE);
            dueRefused("add of s " + s, x -> x.add(2, s, 3), BAD_SEQUENCE);
            dueRefused("add of t " + s, x -> x.add(2, 3, s), BAD_SEQUENCE);
            dueRefused("scale of " + s, x -> x.scale(s, 0), BAD_SEQUENCE);
            dueRefused("advance of " + s, x -> x.advance(s), BAD_SEQUENCE);
            dueRefused("prepend to " + s, x -> x.prepend(s, 5), BAD_SEQUENCE);
            dueRefused("accumulate of " + s, x -> x.accumulate(s), BAD_SEQUENCE);
            dueRefused("difference of " + s, x -> x.difference(s), BAD_SEQUENCE);
            dueRefused("copy to " + s, x -> x.copy(s, 2), BAD_SEQUENCE);
            dueRefused("copy of " + s, x -> x.copy(2, s), BAD_SEQUENCE);
        }
    }

    private static void badOrderChangesNothing() {
        for (int s = 0; s < 4; s++) {
            int own = s;
            dueRefused("define of " + s + " with k 0", x -> x.define(own, 0, 2, 3), BAD_ORDER);
            dueRefused("define of " + s + " with k 5", x -> x.define(own, 5, -1, -1), BAD_ORDER);
        }
    }

    private static void fullChangesNothing() {
        for (int to = 0; to < 4; to++) {
            int own = to;
            dueRefused("add of 0 and 1 to " + to, x -> x.add(own, 0, 1), FULL);
            dueRefused("add of 3 and 0 to " + to, x -> x.add(own, 3, 0), FULL);
        }
        dueRefused("prepend of 1 to 0", x -> x.prepend(0, 1), FULL);
        dueRefused("prepend of 0 to 1", x -> x.prepend(1, 0), FULL);
        dueRefused("accumulate of 0", x -> x.accumulate(0), FULL);
        dueRefused("difference of 1", x -> x.difference(1), FULL);
    }

    private static void notASequence() {
        for (int s : NO_SEQUENCES) {
            RecurrenceEngine x = new RecurrenceEngine();
            makeFour(x);
            due("define of " + s, x.define(s, 1, 1, 1), BAD_SEQUENCE);
            due("add to " + s, x.add(s, 2, 3), BAD_SEQUENCE);
            due("add of s " + s, x.add(2, s, 3), BAD_SEQUENCE);
            due("add of t " + s, x.add(2, 3, s), BAD_SEQUENCE);
            due("add of " + s + " three times", x.add(s, s, s), BAD_SEQUENCE);
            due("scale of " + s, x.scale(s, 1), BAD_SEQUENCE);
            due("advance of " + s, x.advance(s), BAD_SEQUENCE);
            due("prepend to " + s, x.prepend(s, 1), BAD_SEQUENCE);
            due("accumulate of " + s, x.accumulate(s), BAD_SEQUENCE);
            due("difference of " + s, x.difference(s), BAD_SEQUENCE);
            due("copy to " + s, x.copy(s, 2), BAD_SEQUENCE);
            due("copy of " + s, x.copy(2, s), BAD_SEQUENCE);
            due("copy of " + s + " to itself", x.copy(s, s), BAD_SEQUENCE);
            due("term of " + s, x.term(s, 0), BAD_SEQUENCE);
            due("order of " + s, x.order(s), BAD_SEQUENCE);
            due("sum of " + s, x.sum(s, 0, 0), BAD_SEQUENCE);
            due("find in " + s, x.find(s, 1), BAD_SEQUENCE);
        }
    }

    private static void questionsChangeNothing() {
        int[] before = state(BoundaryTest::makeFour);
        for (int s = 0; s < 4; s++) {
            int own = s;
            dueNoChange("all questions to " + s, x -> {
                due("order", x.order(own), before[own * 402]);
                due("term", x.term(own, 400), before[own * 402 + 401]);
                due("find", x.find(own, before[own * 402 + 1]), 0);
                due("equal", x.equal(own, own), true);
                due("sum", x.sum(own, 0, 0), before[own * 402 + 1]);
                x.sum(own, 0, 400);
                x.find(own, 77);
                x.equal(own, (own + 1) % 4);
            });
        }
        dueNoChange("term", x -> due("term", x.term(3, 400), power(3, 400)));
        dueNoChange("term out of reach", x -> due("term", x.term(3, 401), BAD_INDEX));
        dueNoChange("term of none", x -> due("term", x.term(-1, 0), BAD_SEQUENCE));
        dueNoChange("order", x -> due("order", x.order(0), 8));
        dueNoChange("order of none", x -> due("order", x.order(4), BAD_SEQUENCE));
        dueNoChange("equal", x -> due("equal", x.equal(0, 1), false));
        dueNoChange("equal to itself", x -> due("equal", x.equal(1, 1), true));
        dueNoChange("equal of none", x -> due("equal", x.equal(1, 4), false));
        dueNoChange("sum", x -> due("sum", x.sum(2, 0, 6), 20));
        dueNoChange("sum out of reach", x -> due("sum", x.sum(2, 0, 401), BAD_INDEX));
        dueNoChange("sum of none", x -> due("sum", x.sum(4, 0, 1), BAD_SEQUENCE));
        dueNoChange("find", x -> due("find", x.find(2, 13), 7));
        dueNoChange("find of nothing", x -> due("find", x.find(3, 0), BAD_INDEX));
        dueNoChange("find in none", x -> due("find", x.find(4, 0), BAD_SEQUENCE));
    }

    // ---- promises 1 and 2

    private static void newObject() {
        dueSame("a new object", state(x -> { }), new int[4 * 402]);
        RecurrenceEngine filled = new RecurrenceEngine();
        makeFour(filled);
        dueSame("a new object beside a filled one", state(x -> { }), new int[4 * 402]);
        due("the filled one", filled.term(3, 5), 41);
    }

    private static void beginningAndFirstTermAfter() {
        int digits = number(1, 2, 3, 4);
        RecurrenceEngine x = new RecurrenceEngine();
        x.define(0, 1, digits, digits);
        dueTerms("k 1", x, 0, 1, 1, 1, 1);
        x.define(0, 2, digits, digits);
        dueTerms("k 2", x, 0, 1, 2, 4, 8, 16, 32);
        x.define(0, 3, digits, digits);
        dueTerms("k 3", x, 0, 1, 2, 3, 10, 22, 51, 24);
        x.define(0, 4, digits, digits);
        dueTerms("k 4", x, 0, 1, 2, 3, 4, 20, 45, 8);
        // The beginning need not go with the recurrence: here every term after it is 0.
        x.define(0, 4, 0, digits);
        dueTerms("k 4 with the coefficients 0", x, 0, 1, 2, 3, 4, 0, 0);
        dueSame("a long way on", read(y -> y.define(0, 2, number(1, 1), number(0, 1)), 0), fibonacci(401));
    }

    private static void lowestDigitsFirst() {
        RecurrenceEngine x = new RecurrenceEngine();
        x.define(0, 2, number(3, 0), number(1, 0));
        dueTerms("c1 3, c2 0", x, 0, 1, 0, 0, 0);
        x.define(0, 2, number(0, 3), number(1, 0));
        dueTerms("c1 0, c2 3", x, 0, 1, 0, 3, 0, 9, 0);
        x.define(0, 2, number(3, 0), number(0, 1));
        dueTerms("b0 0, b1 1", x, 0, 0, 1, 3, 9);
        for (int place = 0; place < 4; place++) {
            int[] digit = new int[4];
            digit[place] = 1;
            // The digit c(place + 1) alone: what stood so many places back comes again.
            x.define(0, 4, number(digit), number(5, 6, 7, 8));
            due("c" + (place + 1) + " alone", x.term(0, 4), 8 - place);
            x.define(0, 4, 0, number(digit));
            due("b" + place + " alone", x.find(0, 1), place);
        }
    }

    private static void greatestDigits() {
        RecurrenceEngine x = new RecurrenceEngine();
        x.define(0, 1, 100, 100);
        dueTerms("the digit 100", x, 0, 100, 1, 100, 1);
        x.define(0, 1, 101, 101);
        dueTerms("101, whose lowest digit is 0", x, 0, 0, 0, 0);
        x.define(0, 2, 101, 101);
        dueTerms("101, whose next digit is 1", x, 0, 0, 1, 0, 1);
        x.define(0, 4, 0, number(100, 100, 100, 100));
        dueTerms("four digits 100", x, 0, 100, 100, 100, 100, 0);
        x.define(0, 4, number(100, 100, 100, 100), number(100, 100, 100, 100));
        dueTerms("eight digits 100", x, 0, 100, 100, 100, 100, 4, 100, 100, 100, 100, 4);
    }

    private static void withoutSign() {
        RecurrenceEngine x = new RecurrenceEngine();
        int[] numbers = {-1, -2, -101, -102, -104060401, LOWEST, LOWEST + 1, LOWEST + 101, LOWEST + 104060401};
        for (int number : numbers) {
            int unsigned = (int) (number + 2147483648L);
            x.define(0, 4, number, number(1, 2, 3, 4));
            x.define(1, 4, unsigned, number(1, 2, 3, 4));
            due("coefficients " + number, x.equal(0, 1), true);
            x.define(0, 4, number(1, 2, 3, 4), number);
            x.define(1, 4, number(1, 2, 3, 4), unsigned);
            due("beginning " + number, x.equal(0, 1), true);
        }
        // 2147483647 has the digits 33, 98, 32, 64 and 20.
        x.define(0, 4, 0, -1);
        dueTerms("beginning -1", x, 0, 33, 98, 32, 64, 0);
        x.define(0, 4, -1, number(1, 0, 0, 0));
        dueTerms("coefficients -1", x, 0, 1, 0, 0, 0, 64);
        x.define(0, 4, -1, number(0, 0, 0, 1));
        dueTerms("coefficients -1", x, 0, 0, 0, 0, 1, 33);
        x.define(0, 4, LOWEST, -1);
        dueTerms("coefficients lowest", x, 0, 33, 98, 32, 64, 0, 0);
        x.define(0, 4, -1, LOWEST);
        due("beginning lowest", x.order(0), 0);
    }

    private static void beyondDigits() {
        int[] beyond = {101, 101 * 101, 101 * 101 * 101, 101 * 101 * 101 * 101};
        for (int k = 1; k <= 4; k++) {
            RecurrenceEngine x = new RecurrenceEngine();
            int low = number(1, 2, 3, 4) % beyond[k - 1];
            for (int digit = 0; digit <= 20; digit++) {
                int high = low + digit * beyond[k - 1];
                x.define(0, k, low, low);
                x.define(1, k, high, low);
                due("k " + k + ", coefficients " + high, x.equal(0, 1), true);
                x.define(1, k, low, high);
                due("k " + k + ", beginning " + high, x.equal(0, 1), true);
            }
            x.define(1, k, number(1, 2, 3, 4), number(1, 2, 3, 4));
            due("k " + k + " of four digits", x.equal(0, 1), true);
        }
    }

    private static void orderOfDefine() {
        RecurrenceEngine x = new RecurrenceEngine();
        for (int k : new int[] {0, 5, 6, 8, 9, -1, -4, LOWEST, HIGHEST}) {
            due("define with k " + k, x.define(0, k, 1, 1), BAD_ORDER);
        }
        for (int k = 1; k <= 4; k++) {
            due("define with k " + k, x.define(0, k, 0, number(1, 1, 1, 1)), 0);
            due("order with k " + k, x.order(0), k);
        }
    }

    private static void defineAnswersZero() {
        RecurrenceEngine x = new RecurrenceEngine();
        due("define of zeros", x.define(0, 1, 0, 0), 0);
        due("define of order 1", x.define(1, 1, 3, 1), 0);
        due("define of order 4", x.define(2, 4, 0, number(0, 0, 0, 1)), 0);
        makeOneAt(x, 3, 7);
        due("define where order 8 was", x.define(3, 2, number(1, 1), number(0, 1)), 0);
        due("order afterwards", x.order(3), 2);
    }

    // ---- promises 3 to 5

    private static void addWrapsAround() {
        int[][] pairs = {{50, 50, 100}, {50, 51, 0}, {51, 51, 1}, {100, 100, 99}, {100, 1, 0}, {0, 100, 100}, {0, 0, 0}};
        for (int[] pair : pairs) {
            int[] want = new int[401];
            Arrays.fill(want, pair[2]);
            dueSame("terms of " + pair[0] + " and " + pair[1], read(x -> {
                makeConstant(x, 0, pair[0]);
                makeConstant(x, 1, pair[1]);
                due("add", x.add(2, 0, 1), pair[2] == 0 ? 0 : 1);
            }, 2), want);
        }
    }

    private static void addOntoItself() {
        int[] twice = fibonacci(401);
        int[] both = powersOf(3, 401);
        for (int n = 0; n <= 400; n++) {
            both[n] = mod(both[n] + twice[n]);
            twice[n] = mod(2 * twice[n]);
        }
        dueSame("to is s", read(x -> {
            makeFour(x);
            due("add", x.add(2, 2, 3), 3);
        }, 2), both);
        dueSame("to is t", read(x -> {
            makeFour(x);
            due("add", x.add(3, 2, 3), 3);
        }, 3), both);
        dueSame("s is t", read(x -> {
            makeFour(x);
            due("add", x.add(0, 2, 2), 2);
        }, 0), twice);
        dueSame("all are one", read(x -> {
            makeFour(x);
            due("add", x.add(2, 2, 2), 2);
        }, 2), twice);
    }

    private static void addAboveEight() {
        for (int one = 1; one <= 8; one++) {
            for (int other = 1; other <= 8; other++) {
                RecurrenceEngine x = new RecurrenceEngine();
                makeRoots(x, 0, 3, 1, one, 1);
                makeRoots(x, 1, 3, 20, other, 1);
                int want = one + other > 8 ? FULL : one + other;
                due("add of orders " + one + " and " + other, x.add(2, 0, 1), want);
            }
        }
        RecurrenceEngine x = new RecurrenceEngine();
        makeFour(x);
        due("add of two of order 8", x.add(2, 0, 1), FULL);
        due("add of order 8 and zeros", x.add(0, 0, 0), 8);
        x.define(2, 1, 0, 0);
        due("add of order 8 and 0", x.add(3, 1, 2), 8);
    }

    /** The sum has order 16, but its first 23 terms are those of a sequence of order 8. */
    private static void addThatLooksShort() {
        RecurrenceEngine x = new RecurrenceEngine();
        makeWeighted(x, 0, 3, 1, 24, 1);
        makeWeighted(x, 1, 3, 9, 24, 1);
        makeWeighted(x, 2, 3, 17, 24, -1);
        for (int n = 0; n < 23; n++) {
            due("the sum at " + n, mod(x.term(0, n) + x.term(1, n)), x.term(2, n));
        }
        due("the sum at 23", mod(x.term(0, 23) + x.term(1, 23) - x.term(2, 23)), 1);
        due("add", x.add(3, 0, 1), FULL);
        due("add to one of them", x.add(0, 0, 1), FULL);
    }

    private static void addAnswersOrder() {
        for (int shared = 0; shared <= 8; shared++) {
            RecurrenceEngine x = new RecurrenceEngine();
            makeRoots(x, 0, 3, 1, 8, 1);
            makeRoots(x, 1, 3, 1, shared, -1);
            due("add that takes away " + shared, x.add(2, 0, 1), 8 - shared);
            due("order afterwards", x.order(2), 8 - shared);
        }
        RecurrenceEngine x = new RecurrenceEngine();
        makeRoots(x, 0, 3, 1, 8, 1);
        makeRoots(x, 1, 3, 1, 8, 5);
        due("add with the same recurrence", x.add(2, 0, 1), 8);
        makeOneAt(x, 0, 3);
        makeOneAt(x, 1, 5);
        due("add of ones at 3 and 5", x.add(2, 0, 1), 6);
    }

    private static void scaleEveryTerm() {
        int[] late = new int[401];
        late[7] = 100;
        dueSame("a late one by -1", read(x -> {
            makeFour(x);
            due("scale", x.scale(1, -1), 8);
        }, 1), late);
        dueSame("by 0", read(x -> {
            makeFour(x);
            due("scale", x.scale(3, 0), 0);
        }, 3), new int[401]);
        dueSame("by 1", read(x -> {
            makeFour(x);
            due("scale", x.scale(3, 1), 1);
        }, 3), powersOf(3, 401));
        dueSame("by 2 and by its inverse", read(x -> {
            makeFour(x);
            due("scale", x.scale(2, 2), 2);
            due("scale", x.scale(2, HALF), 2);
        }, 2), fibonacci(401));
    }

    private static void scaleAnswersOrder() {
        for (int order = 0; order <= 8; order++) {
            RecurrenceEngine x = new RecurrenceEngine();
            makeRoots(x, 0, 3, 1, order, 1);
            due("scale at " + order, x.scale(0, 2), order);
            due("order afterwards", x.order(0), order);
            due("scale at " + order + " by 0", x.scale(0, 0), 0);
            due("order afterwards", x.order(0), 0);
        }
    }

    private static void advanceLosesFirst() {
        dueSame("0 1 1 2 ..", read(x -> {
            makeFour(x);
            due("advance", x.advance(2), 2);
        }, 2), Arrays.copyOfRange(fibonacci(402), 1, 402));
        dueSame("7 and zeros", read(x -> {
            x.prepend(0, 7);
            due("advance", x.advance(0), 0);
        }, 0), new int[401]);
        dueSame("what was put ahead", read(x -> {
            makeFour(x);
            x.prepend(3, 50);
            due("advance", x.advance(3), 1);
        }, 3), powersOf(3, 401));
    }

    private static void advanceAnswersOrder() {
        RecurrenceEngine x = new RecurrenceEngine();
        due("advance of zeros", x.advance(0), 0);
        makeOneAt(x, 0, 7);
        for (int order = 7; order >= 0; order--) {
            due("advance to " + order, x.advance(0), order);
            due("order afterwards", x.order(0), order);
        }
        for (int order = 0; order <= 8; order++) {
            makeRoots(x, 1, 3, 1, order, 1);
            due("advance that leaves " + order, x.advance(1), order);
        }
    }

    // ---- promises 6 to 8

    private static void prependMovesOn() {
        int[] want = new int[401];
        System.arraycopy(fibonacci(401), 0, want, 1, 400);
        want[0] = 50;
        dueSame("50 ahead of 0 1 1 2 ..", read(x -> {
            makeFour(x);
            due("prepend", x.prepend(2, 50), 3);
        }, 2), want);
        int[] late = new int[401];
        late[7] = 1;
        dueSame("seven zeros ahead of a one", read(x -> makeOneAt(x, 0, 7), 0), late);
        dueSame("0 ahead of zeros", read(x -> due("prepend", x.prepend(0, 0), 0), 0), new int[401]);
    }

    private static void prependAboveEight() {
        for (int number : NUMBERS) {
            RecurrenceEngine x = new RecurrenceEngine();
            makeFour(x);
            due("prepend of " + number + " to a late one", x.prepend(1, number), FULL);
            // Ahead of eight sums a 0 goes with the recurrence, and nothing else does.
            due("prepend of " + number + " to eight sums", x.prepend(0, number), mod(number) == 0 ? 8 : FULL);
        }
        RecurrenceEngine x = new RecurrenceEngine();
        makeOneAt(x, 0, 6);
        due("prepend of 1 at order 7", x.prepend(0, 1), 8);
        due("prepend of 1 at order 8", x.prepend(0, 1), FULL);
        due("order afterwards", x.order(0), 8);
    }

    private static void prependAnswersOrder() {
        RecurrenceEngine x = new RecurrenceEngine();
        due("prepend of 0 to zeros", x.prepend(0, 0), 0);
        due("prepend of 5 to zeros", x.prepend(0, 5), 1);
        for (int order = 2; order <= 8; order++) {
            due("prepend up to " + order, x.prepend(0, 0), order);
            due("order afterwards", x.order(0), order);
        }
        makePowers(x, 1, 3);
        due("prepend of a third to 1, 3, 9 ..", x.prepend(1, THIRD), 1);
        due("prepend of another number", x.prepend(1, THIRD), 2);
        makeFibonacci(x, 2);
        due("prepend of 1 to 0, 1, 1 ..", x.prepend(2, 1), 2);
    }

    private static void accumulateCountsItself() {
        RecurrenceEngine x = new RecurrenceEngine();
        makePowers(x, 0, 3);
        due("accumulate", x.accumulate(0), 2);
        dueTerms("sums of 1, 3, 9 ..", x, 0, 1, 4, 13, 40, 20, 61, 83);
        makeConstant(x, 1, 100);
        due("accumulate", x.accumulate(1), 2);
        dueTerms("sums of 100, 100 ..", x, 1, 100, 99, 98, 97);
        due("sums of 100, 100 .. come round", x.term(1, 100), 0);
        due("sums of 100, 100 .. begin anew", x.term(1, 101), 100);
        int[] ones = new int[401];
        Arrays.fill(ones, 7, 401, 1);
        dueSame("sums of a late one", read(y -> {
            makeFour(y);
            due("accumulate", y.accumulate(1), 8);
        }, 1), ones);
    }

    private static void accumulateAboveEight() {
        RecurrenceEngine x = new RecurrenceEngine();
        makeSums(x, 0, 7);
        due("accumulate at order 7", x.accumulate(0), 8);
        due("accumulate at order 8", x.accumulate(0), FULL);
        due("order afterwards", x.order(0), 8);
        makeRoots(x, 1, 3, 2, 8, 1);
        due("accumulate of eight powers", x.accumulate(1), FULL);
        due("order afterwards", x.order(1), 8);
        makeOneAt(x, 2, 7);
        due("accumulate of a late one stays at 8", x.accumulate(2), 8);
        due("accumulate of it once more", x.accumulate(2), 8);
    }

    private static void accumulateAnswersOrder() {
        RecurrenceEngine x = new RecurrenceEngine();
        due("accumulate of zeros", x.accumulate(0), 0);
        x.define(0, 1, 0, 1);
        for (int order = 1; order <= 8; order++) {
            due("accumulate up to " + order, x.accumulate(0), order);
            due("order afterwards", x.order(0), order);
        }
        x.define(1, 2, 0, number(1, 100));
        due("accumulate of 1, -1, 0 ..", x.accumulate(1), 1);
        dueTerms("sums of 1, -1, 0 ..", x, 1, 1, 0, 0, 0);
    }

    private static void differenceWrapsAround() {
        RecurrenceEngine x = new RecurrenceEngine();
        x.define(0, 4, 0, number(0, 100, 0, 1));
        due("difference", x.difference(0), 5);
        dueTerms("difference of 0, 100, 0, 1", x, 0, 0, 100, 1, 1, 100, 0);
        int[] want = fibonacci(401);
        for (int n = 400; n >= 1; n--) {
            want[n] = mod(want[n] - want[n - 1]);
        }
        dueSame("differences of 0 1 1 2 ..", read(y -> {
            makeFour(y);
            due("difference", y.difference(2), 3);
        }, 2), want);
    }

    private static void differenceKeepsFirst() {
        for (int first = 0; first <= 100; first++) {
            RecurrenceEngine x = new RecurrenceEngine();
            makeConstant(x, 0, first);
            due("difference of a constant " + first, x.difference(0), first == 0 ? 0 : 1);
            dueTerms("difference of a constant " + first, x, 0, first, 0, 0, 0);
        }
    }

    private static void differenceAboveEight() {
        RecurrenceEngine x = new RecurrenceEngine();
        makeOneAt(x, 0, 6);
        due("difference at order 7", x.difference(0), 8);
        due("difference at order 8", x.difference(0), FULL);
        due("order afterwards", x.order(0), 8);
        makeRoots(x, 1, 3, 2, 8, 1);
        due("difference of eight powers", x.difference(1), FULL);
        due("order afterwards", x.order(1), 8);
        // With the root 1 among them the order stays, as a first term comes and a root goes.
        makeRoots(x, 2, 3, 1, 8, 1);
        due("difference of eight powers, 1 among them", x.difference(2), 8);
    }

    private static void differenceAnswersOrder() {
        RecurrenceEngine x = new RecurrenceEngine();
        due("difference of zeros", x.difference(0), 0);
        makeSums(x, 0, 8);
        for (int order = 7; order >= 1; order--) {
            due("difference down to " + order, x.difference(0), order);
            due("order afterwards", x.order(0), order);
        }
        due("difference of ones", x.difference(0), 1);
        for (int order = 2; order <= 8; order++) {
            due("difference up to " + order, x.difference(0), order);
            due("order afterwards", x.order(0), order);
        }
    }

    // ---- promises 9 to 11

    private static void copyIsTheSame() {
        int[] before = state(BoundaryTest::makeFour);
        for (int to = 0; to < 4; to++) {
            for (int s = 0; s < 4; s++) {
                int own = to;
                int other = s;
                int[] want = before.clone();
                System.arraycopy(before, s * 402, want, to * 402, 402);
                dueSame("copy of " + s + " to " + to, state(x -> {
                    makeFour(x);
                    due("copy", x.copy(own, other), before[other * 402]);
                }), want);
            }
        }
        dueSame("a copy that went its own way, and what it was made from", state(x -> {
            makeFour(x);
            x.copy(3, 2);
            x.advance(2);
            x.scale(3, 2);
            x.scale(3, HALF);
            x.prepend(2, 0);
        }), state(x -> {
            makeFour(x);
            makeFibonacci(x, 3);
        }));
    }

    private static void copyAnswersOrder() {
        RecurrenceEngine x = new RecurrenceEngine();
        due("copy of zeros", x.copy(1, 0), 0);
        for (int order = 1; order <= 8; order++) {
            makeOneAt(x, 0, order - 1);
            due("copy of order " + order, x.copy(1, 0), order);
            due("order of the copy", x.order(1), order);
            due("copy to itself", x.copy(0, 0), order);
        }
        due("copy of zeros over order 8", x.copy(1, 3), 0);
        due("order of the copy", x.order(1), 0);
    }

    private static void firstAndLastTerm() {
        dueSame("powers of 3", read(x -> makePowers(x, 0, 3), 0), powersOf(3, 401));
        dueSame("Fibonacci's", read(x -> makeFibonacci(x, 3), 3), fibonacci(401));
        int[] late = new int[401];
        late[7] = 1;
        dueSame("a late one", read(x -> makeOneAt(x, 2, 7), 2), late);
    }

    private static void termOutOfReach() {
        RecurrenceEngine x = new RecurrenceEngine();
        makeFour(x);
        for (int s = 0; s < 4; s++) {
            for (int n : NO_INDICES) {
                due("term " + n + " of " + s, x.term(s, n), BAD_INDEX);
            }
            due("term 0 of " + s + " is one", x.term(s, 0) >= 0, true);
            due("term 400 of " + s + " is one", x.term(s, 400) >= 0, true);
        }
    }

    private static void everyOrder() {
        RecurrenceEngine x = new RecurrenceEngine();
        for (int order = 0; order <= 8; order++) {
            makeRoots(x, 0, 3, 1, order, 1);
            due("order of so many powers", x.order(0), order);
        }
        for (int order = 1; order <= 8; order++) {
            makeOneAt(x, 1, order - 1);
            due("order of a late one", x.order(1), order);
            makeSums(x, 2, order);
            due("order of so many sums", x.order(2), order);
        }
    }

    private static void orderOfNoSequence() {
        RecurrenceEngine x = new RecurrenceEngine();
        makeFour(x);
        for (int s : NO_SEQUENCES) {
            due("order of " + s, x.order(s), BAD_SEQUENCE);
        }
    }

    // ---- promises 12 to 14

    private static void equalInAllTerms() {
        RecurrenceEngine x = new RecurrenceEngine();
        due("zeros and zeros", x.equal(0, 3), true);
        for (int place = 0; place < 8; place++) {
            makeOneAt(x, 0, place);
            due("a one at " + place + " and zeros", x.equal(0, 3), false);
            due("zeros and a one at " + place, x.equal(3, 0), false);
        }
        // Two of order 8 that part as late as two of them can.
        makeWeighted(x, 0, 3, 1, 16, 1);
        makeWeighted(x, 1, 3, 9, 16, -1);
        for (int n = 0; n < 15; n++) {
            due("both at " + n, x.term(0, n), x.term(1, n));
        }
        due("both at 15", mod(x.term(0, 15) - x.term(1, 15)), 1);
        due("two that part at 15", x.equal(0, 1), false);
        due("the same turned round", x.equal(1, 0), false);
        makeConstant(x, 0, 7);
        x.define(1, 1, 0, 7);
        x.accumulate(1);
        due("the same made in two ways", x.equal(0, 1), true);
        due("one with itself", x.equal(1, 1), true);
    }

    private static void equalOfNoSequence() {
        RecurrenceEngine x = new RecurrenceEngine();
        for (int s : NO_SEQUENCES) {
            for (int t = 0; t < 4; t++) {
                due("equal of " + s + " and " + t, x.equal(s, t), false);
                due("equal of " + t + " and " + s, x.equal(t, s), false);
            }
            due("equal of " + s + " and itself", x.equal(s, s), false);
            due("equal of " + s + " and 4", x.equal(s, 4), false);
        }
    }

    private static void sumWithBothEnds() {
        RecurrenceEngine x = new RecurrenceEngine();
        makeFour(x);
        int[] list = fibonacci(401);
        int[][] ends = {{0, 0}, {0, 1}, {1, 1}, {3, 3}, {9, 11}, {0, 400}, {1, 400}, {0, 399}, {399, 400}, {400, 400}};
        for (int[] end : ends) {
            long want = 0;
            for (int n = end[0]; n <= end[1]; n++) {
                want += list[n];
            }
            due("sum from " + end[0] + " to " + end[1], x.sum(2, end[0], end[1]), mod(want));
        }
        due("sum of the late one alone", x.sum(1, 7, 7), 1);
        due("sum ahead of the late one", x.sum(1, 0, 6), 0);
        due("sum after the late one", x.sum(1, 8, 400), 0);
        makeConstant(x, 0, 100);
        due("sum of 100, 401 times", x.sum(0, 0, 400), mod(40100));
        due("sum of 100, 101 times", x.sum(0, 300, 400), 0);
        due("sum of 100, twice", x.sum(0, 0, 1), 99);
    }

    private static void sumOutOfReach() {
        RecurrenceEngine x = new RecurrenceEngine();
        makeFour(x);
        for (int n : NO_INDICES) {
            due("sum from " + n + " to 0", x.sum(2, n, 0), BAD_INDEX);
            due("sum from " + n + " to 400", x.sum(2, n, 400), BAD_INDEX);
            due("sum from 0 to " + n, x.sum(2, 0, n), BAD_INDEX);
            due("sum from 400 to " + n, x.sum(2, 400, n), BAD_INDEX);
            due("sum from and to " + n, x.sum(2, n, n), BAD_INDEX);
        }
        due("sum of all ints", x.sum(2, LOWEST, HIGHEST), BAD_INDEX);
        due("sum of all but in reach", x.sum(2, -1, 401), BAD_INDEX);
    }

    private static void sumTurnedRound() {
        RecurrenceEngine x = new RecurrenceEngine();
        makeFour(x);
        for (int first = 1; first <= 400; first++) {
            due("sum from " + first + " down by one", x.sum(2, first, first - 1), BAD_INDEX);
        }
        due("sum from 400 to 0", x.sum(2, 400, 0), BAD_INDEX);
        due("sum from 1 to 0 of zeros", new RecurrenceEngine().sum(0, 1, 0), BAD_INDEX);
    }

    private static void findTheFirst() {
        RecurrenceEngine x = new RecurrenceEngine();
        makeFour(x);
        int[] list = fibonacci(401);
        for (int value = 0; value <= 100; value++) {
            int want = BAD_INDEX;
            for (int n = 400; n >= 0; n--) {
                want = list[n] == value ? n : want;
            }
            due("find of " + value, x.find(2, value), want);
        }
        makeConstant(x, 0, 5);
        due("find of 5 among many", x.find(0, 5), 0);
        due("find of 0 in a late one", x.find(1, 0), 0);
        due("find of 1 in a late one", x.find(1, 1), 7);
    }

    private static void findAtBothEnds() {
        RecurrenceEngine x = new RecurrenceEngine();
        // 22 comes first at index 400 here, and 75 first at index 401 in the next one.
        x.define(0, 2, number(48, 4), number(1, 0));
        due("find at 400", x.find(0, 22), 400);
        due("term 400", x.term(0, 400), 22);
        due("find at 0", x.find(0, 1), 0);
        x.define(1, 2, number(72, 2), number(1, 0));
        due("find at 401", x.find(1, 75), BAD_INDEX);
        x.advance(1);
        due("find once it has come to 400", x.find(1, 75), 400);
        due("term 400", x.term(1, 400), 75);
        x.prepend(0, 1);
        due("find once it has gone to 401", x.find(0, 22), BAD_INDEX);
    }

    private static void findNothing() {
        RecurrenceEngine x = new RecurrenceEngine();
        for (int value = 1; value <= 100; value++) {
            due("find of " + value + " in zeros", x.find(0, value), BAD_INDEX);
        }
        makePowers(x, 1, 3);
        due("find of 0 in the powers of 3", x.find(1, 0), BAD_INDEX);
        due("find of 101 in the powers of 3", x.find(1, 101), BAD_INDEX);
        due("find of -101 in the powers of 3", x.find(1, -101), BAD_INDEX);
        makeConstant(x, 2, 5);
        due("find of 4 in a constant 5", x.find(2, 4), BAD_INDEX);
        due("find of -5 in a constant 5", x.find(2, -5), BAD_INDEX);
    }
}
