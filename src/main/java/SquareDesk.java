/**
 * Solutions of x * x - n * y * y = k for small k, and the terms of the
 * continued fraction of the root of n.
 */
public final class SquareDesk {
    private static final int REFUSED = -1;
    private static final int NONE = -2;

    private static final int FIRST_N = 2;
    private static final int LEAST_N = 2;
    private static final int GREATEST_N = 120;
    private static final int GREATEST_K = 9;
    private static final int GREATEST_Y = 3000;
    private static final int TERM_COUNT = 101;

    // The greatest number whose root is sought is 120 * 3000 * 3000 + 9: its root,
    // rounded down, is 32863, which just needs this bit.
    private static final int HIGHEST_ROOT_BIT = 1 << 15;

    private final int[] terms = new int[TERM_COUNT];
    private int n;
    private int periodLength;

    public SquareDesk() {
        n = FIRST_N;
        walkRow();
    }

    public int set(int n) {
        if (n < LEAST_N || n > GREATEST_N || isSquare(n)) {
            return REFUSED;
        }
        this.n = n;
        walkRow();
        return 0;
    }

    public int term(int number) {
        if (number < 0 || number >= TERM_COUNT) {
            return REFUSED;
        }
        return terms[number];
    }

    public int period() {
        return periodLength;
    }

    public int solutions(int k, int limit) {
        if (isRefused(k, limit)) {
            return REFUSED;
        }
        int count = 0;
        for (int y = 0; y <= limit; y++) {
            if (findX(k, y) != NONE) {
                count++;
            }
        }
        return count;
    }

    public int next(int k, int from) {
        if (isRefused(k, from)) {
            return REFUSED;
        }
        for (int y = from; y <= GREATEST_Y; y++) {
            if (findX(k, y) != NONE) {
                return y;
            }
        }
        return NONE;
    }

    public int root(int k, int y) {
        if (isRefused(k, y)) {
            return REFUSED;
        }
        return findX(k, y);
    }

    public int sum(int k, int limit) {
        if (isRefused(k, limit)) {
            return REFUSED;
        }
        int total = 0;
        for (int y = 0; y <= limit; y++) {
            if (findX(k, y) != NONE) {
                total += y;
            }
        }
        return total;
    }

    // The range of k is tested before its square, which could wrap around.
    private boolean isRefused(int k, int y) {
        if (k < -GREATEST_K || k > GREATEST_K || k == 0 || k * k >= n) {
            return true;
        }
        return y < 0 || y > GREATEST_Y;
    }

    private int findX(int k, int y) {
        int square = n * y * y + k;
        if (square < 0) {
            return NONE;
        }
        int x = floorRoot(square);
        return x * x == square ? x : NONE;
    }

    // m and d alone decide all the terms that follow, and different pairs are
    // followed by different terms: so the period ends when the pair that
    // gave term 1 comes back. The longest period up to n = 120 is far below 100.
    private void walkRow() {
        int r = floorRoot(n);
        int m = 0;
        int d = 1;
        int firstM = 0;
        int firstD = 0;
        periodLength = 0;
        for (int i = 0; i < TERM_COUNT && d > 0; i++) {
            int t = (r + m) / d;
            terms[i] = t;
            m = t * d - m;
            d = (n - m * m) / d;
            if (i == 0) {
                firstM = m;
                firstD = d;
            } else if (periodLength == 0 && m == firstM && d == firstD) {
                periodLength = i;
            }
        }
    }

    private static boolean isSquare(int value) {
        int x = floorRoot(value);
        return x * x == value;
    }

    // Squares in long, because the square of a tried root can pass the greatest int.
    private static int floorRoot(int value) {
        int found = 0;
        for (int bit = HIGHEST_ROOT_BIT; bit > 0; bit >>= 1) {
            long tried = found + bit;
            if (tried * tried <= value) {
                found += bit;
            }
        }
        return found;
    }
}
