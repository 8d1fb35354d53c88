/**
 * Long mixed runs against a second way to hold the sequences: plain lists of so many terms that 512
 * calls can't use them up, and the order as the rank of a matrix. The numbers come from a fixed rule.
 */
public final class ModelTest {
    private static final int RUNS = 600;
    /** With four orders and 401 terms asked for at the end, a run has 512 calls. */
    private static final int CALLS = 107;
    private static final int LENGTH = 1000;
    private static final int RANK_SIZE = 20;

    private static long seed = 20261115L;
    private static int wrong = 0;
    private static final int[] outcomes = new int[13 * 5];

    private int[][] lists = new int[4][LENGTH];

    public static void main(String[] args) {
        for (int run = 0; run < RUNS && wrong < 20; run++) {
            new ModelTest().compare(run);
        }
        checkOutcomes();
        if (wrong != 0) {
            System.out.println(wrong + " answers are not as due");
            System.exit(1);
        }
    }

    private static int next(int bound) {
        seed = seed * 6364136223846793005L + 1442695040888963407L;
        return (int) ((seed >>> 33) % bound);
    }

    private static void due(String call, int got, int want) {
        if (got != want) {
            wrong++;
            System.out.println(call + " answered " + got + ", due is " + want);
        }
    }

    /** The runs are of use only if they meet every refusal of every call. */
    private static void checkOutcomes() {
        String[] reachable = {"012", "013", "01", "01", "013", "013", "013", "01", "014", "01", "0", "014", "014"};
        for (int call = 0; call < 13; call++) {
            for (char outcome : reachable[call].toCharArray()) {
                if (outcomes[call * 5 + outcome - '0'] < 20) {
                    wrong++;
                    System.out.println("call " + call + " seldom has the outcome " + outcome);
                }
            }
        }
    }

    private void compare(int run) {
        RecurrenceEngine x = new RecurrenceEngine();
        for (int i = 0; i < CALLS; i++) {
            int call = next(13);
            int[] a = {sequence(), sequence(), sequence(), any()};
            if (call == 0) {
                a = new int[] {sequence(), next(25) == 0 ? any() : 1 + next(4), digits(), digits()};
            } else if (call == 8 || call == 11) {
                a[1] = index();
                a[2] = index();
            }
            int got = ask(x, call, a);
            int want = model(call, a);
            due("run " + run + ", call " + i + ": " + call + java.util.Arrays.toString(a), got, want);
            outcomes[call * 5 + (want < 0 ? -want : 0)]++;
        }
        for (int s = 0; s < 4; s++) {
            due("run " + run + ", at the end: order(" + s + ")", x.order(s), rank(lists[s]));
        }
        for (int n = 0; n <= 400; n++) {
            due("run " + run + ", at the end: term(" + run % 4 + ", " + n + ")", x.term(run % 4, n), lists[run % 4][n]);
        }
    }

    private static int sequence() {
        return next(30) == 0 ? any() : next(4);
    }

    private static int any() {
        int[] special = {0, 1, -1, 4, 5, 100, 101, -101, 400, 401, Integer.MAX_VALUE, Integer.MIN_VALUE};
        int kind = next(3);
        return kind == 0 ? special[next(special.length)] : kind == 1 ? next(300) - 150 : next(1 << 30) * 4 + next(4);
    }

    private static int index() {
        return next(8) == 0 ? any() : next(401);
    }

    /** Small digits make sequences that share roots, and orders below k. */
    private static int digits() {
        if (next(3) == 0) {
            return any();
        }
        int number = 0;
        for (int i = 0; i < 4; i++) {
            number = number * 101 + new int[] {0, 0, 1, 2, 99, 100}[next(6)];
        }
        return number;
    }

    private static int ask(RecurrenceEngine x, int call, int[] a) {
        switch (call) {
            case 0: return x.define(a[0], a[1], a[2], a[3]);
            case 1: return x.add(a[0], a[1], a[2]);
            case 2: return x.scale(a[0], a[3]);
            case 3: return x.advance(a[0]);
            case 4: return x.prepend(a[0], a[3]);
            case 5: return x.accumulate(a[0]);
            case 6: return x.difference(a[0]);
            case 7: return x.copy(a[0], a[1]);
            case 8: return x.term(a[0], a[1]);
            case 9: return x.order(a[0]);
            case 10: return x.equal(a[0], a[1]) ? 1 : 0;
            case 11: return x.sum(a[0], a[1], a[2]);
            default: return x.find(a[0], a[3]);
        }
    }

    private int model(int call, int[] a) {
        boolean known = isSequence(a[0]);
        known &= isSequence(a[1]) || call != 1 && call != 7 && call != 10;
        known &= isSequence(a[2]) || call != 1;
        if (!known) {
            return call == 10 ? 0 : -1;
        }
        int[] list = lists[a[0]];
        switch (call) {
            case 0: return a[1] < 1 || a[1] > 4 ? -2 : begin(a);
            case 7: return put(a[0], lists[a[1]].clone());
            case 8: return a[1] < 0 || a[1] > 400 ? -4 : list[a[1]];
            case 9: return rank(list);
            case 10: return sameTerms(list, lists[a[1]]);
            case 11: return total(list, a[1], a[2]);
            case 12: return firstOf(list, Math.floorMod(a[3], 101));
            default: return put(a[0], changed(call, a));
        }
    }

    private static boolean isSequence(int s) {
        return s == 0 || s == 1 || s == 2 || s == 3;
    }

    private int begin(int[] a) {
        int[] list = new int[LENGTH];
        long[] c = new long[4];
        long coefficients = a[2] & 0x7fffffffL;
        long beginning = a[3] & 0x7fffffffL;
        for (int i = 0; i < a[1]; i++) {
            c[i] = coefficients % 101;
            list[i] = (int) (beginning % 101);
            coefficients /= 101;
            beginning /= 101;
        }
        for (int n = a[1]; n < LENGTH; n++) {
            long total = 0;
            for (int i = 0; i < a[1]; i++) {
                total += c[i] * list[n - 1 - i];
            }
            list[n] = (int) (total % 101);
        }
        lists[a[0]] = list;
        return 0;
    }

    private int[] changed(int call, int[] a) {
        int[] old = lists[a[0]];
        // An advance costs the list its last term; LENGTH is great enough for all of a run.
        int length = call == 3 ? old.length - 1 : call == 4 ? old.length + 1 : old.length;
        if (call == 1) {
            length = Math.min(lists[a[1]].length, lists[a[2]].length);
        }
        int[] list = new int[length];
        long total = 0;
        for (int n = 0; n < length; n++) {
            switch (call) {
                case 1: total = lists[a[1]][n] + lists[a[2]][n]; break;
                case 2: total = (long) a[3] * old[n]; break;
                case 3: total = old[n + 1]; break;
                case 4: total = n == 0 ? a[3] : old[n - 1]; break;
                case 5: total += old[n]; break;
                default: total = n == 0 ? old[n] : old[n] - old[n - 1]; break;
            }
            list[n] = (int) Math.floorMod(total, 101L);
        }
        return list;
    }

    private int put(int s, int[] list) {
        int rank = rank(list);
        if (rank > 8) {
            return -3;
        }
        lists[s] = list;
        return rank;
    }

    private static int sameTerms(int[] one, int[] other) {
        for (int n = 0; n < one.length && n < other.length; n++) {
            if (one[n] != other[n]) {
                return 0;
            }
        }
        return 1;
    }

    private static int total(int[] list, int first, int last) {
        if (first < 0 || first > 400 || last < 0 || last > 400 || first > last) {
            return -4;
        }
        long total = 0;
        for (int n = first; n <= last; n++) {
            total += list[n];
        }
        return (int) (total % 101);
    }

    private static int firstOf(int[] list, int value) {
        for (int n = 0; n <= 400; n++) {
            if (list[n] == value) {
                return n;
            }
        }
        return -4;
    }

    /** By Kronecker: the order is the rank of the matrix with a(i + j) in row i and column j. */
    private static int rank(int[] list) {
        int[][] m = new int[RANK_SIZE][RANK_SIZE];
        for (int i = 0; i < RANK_SIZE; i++) {
            for (int j = 0; j < RANK_SIZE; j++) {
                m[i][j] = list[i + j];
            }
        }
        int rank = 0;
        for (int column = 0; column < RANK_SIZE; column++) {
            int row = rank;
            while (row < RANK_SIZE && m[row][column] == 0) {
                row++;
            }
            if (row < RANK_SIZE) {
                int[] pivot = m[row];
                m[row] = m[rank];
                m[rank] = pivot;
                clearBelow(m, rank, column);
                rank++;
            }
        }
        return rank;
    }

    private static void clearBelow(int[][] m, int rank, int column) {
        for (int row = rank + 1; row < RANK_SIZE; row++) {
            int here = m[row][column];
            for (int j = 0; j < RANK_SIZE; j++) {
                m[row][j] = Math.floorMod(m[row][j] * m[rank][column] - m[rank][j] * here, 101);
            }
        }
    }
}
