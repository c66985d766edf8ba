import java.math.BigDecimal;
import java.math.MathContext;
import java.math.RoundingMode;
import java.util.ArrayList;
import java.util.Arrays;
import java.util.List;

/**
 * Every n and every k against answers that are found another way: the terms from
 * the root of n as a long decimal fraction, the solutions by going through all x.
 */
public final class ReferenceTest {
    private static final int GREATEST_Y = 3000;
    private static final int GREATEST_X = 32864;
    private static final int CALLS_PROMISED = 512;
    // 101 terms of at most 20 need some 270 digits.
    private static final MathContext DIGITS = new MathContext(400, RoundingMode.HALF_EVEN);

    private static int wrong = 0;
    private static SquareDesk desk;
    private static int callsLeft;

    public static void main(String[] args) {
        int[] rootOfSquare = new int[GREATEST_Y * GREATEST_Y + 1];
        for (int y = 1; y <= GREATEST_Y; y++) {
            rootOfSquare[y * y] = y;
        }
        for (int n = 2; n <= 120; n++) {
            if (rootOfSquare[n] == 0) {
                rowOf(n);
                solutionsOf(n, rootOfSquare);
            }
        }
        System.out.println(wrong == 0 ? "all answers are as due" : wrong + " answers are not as due");
        if (wrong != 0) {
            System.exit(1);
        }
    }

    private static void due(int n, String call, int got, int want) {
        if (got != want) {
            wrong++;
            System.out.println("n = " + n + ": " + call + " answered " + got + ", due is " + want);
        }
    }

    private static void take(int n) {
        desk = new SquareDesk();
        due(n, "set", desk.set(n), 0);
        callsLeft = CALLS_PROMISED - 1;
    }

    /** A desk for n that has a promised call left. */
    private static SquareDesk deskFor(int n) {
        if (callsLeft == 0) {
            take(n);
        }
        callsLeft--;
        return desk;
    }

    private static void rowOf(int n) {
        int[] terms = new int[101];
        BigDecimal rest = BigDecimal.valueOf(n).sqrt(DIGITS);
        for (int i = 0; i <= 100; i++) {
            terms[i] = rest.intValue();
            rest = BigDecimal.ONE.divide(rest.subtract(BigDecimal.valueOf(terms[i])), DIGITS);
        }
        take(n);
        for (int i = 0; i <= 100; i++) {
            due(n, "term(" + i + ")", deskFor(n).term(i), terms[i]);
        }
        due(n, "period()", deskFor(n).period(), leastPeriod(terms));
    }

    private static int leastPeriod(int[] terms) {
        int period = 1;
        while (!repeats(terms, period)) {
            period++;
        }
        return period;
    }

    private static boolean repeats(int[] terms, int period) {
        for (int i = 1; i + period < terms.length; i++) {
            if (terms[i] != terms[i + period]) {
                return false;
            }
        }
        return true;
    }

    private static void solutionsOf(int n, int[] rootOfSquare) {
        for (int k = -9; k <= 9; k++) {
            take(n);
            if (k == 0 || k * k >= n) {
                refused(n, k);
            } else {
                accepted(n, k, rootOfSquare);
            }
        }
    }

    private static void refused(int n, int k) {
        for (int y : new int[] {0, 1, 2, 3, 10, 2999, 3000}) {
            String with = "(" + k + ", " + y + ")";
            due(n, "solutions" + with, deskFor(n).solutions(k, y), -1);
            due(n, "next" + with, deskFor(n).next(k, y), -1);
            due(n, "root" + with, deskFor(n).root(k, y), -1);
            due(n, "sum" + with, deskFor(n).sum(k, y), -1);
        }
    }

    private static void accepted(int n, int k, int[] rootOfSquare) {
        int[] xOf = new int[GREATEST_Y + 1];
        Arrays.fill(xOf, -2);
        for (int x = 0; x <= GREATEST_X; x++) {
            int rest = x * x - k;
            if (rest >= 0 && rest % n == 0 && rest / n <= GREATEST_Y * GREATEST_Y) {
                int y = rootOfSquare[rest / n];
                if (y > 0 || rest == 0) {
                    xOf[y] = x;
                }
            }
        }
        for (int y = 0; y <= GREATEST_Y; y++) {
            due(n, "root(" + k + ", " + y + ")", deskFor(n).root(k, y), xOf[y]);
        }
        for (int y : placesToLookAt(xOf)) {
            around(n, k, y, xOf);
        }
    }

    private static List<Integer> placesToLookAt(int[] xOf) {
        List<Integer> places = new ArrayList<>(List.of(0, 1, 1500, GREATEST_Y - 1, GREATEST_Y));
        for (int y = 1; y < GREATEST_Y; y++) {
            if (xOf[y] != -2) {
                places.addAll(List.of(y - 1, y, y + 1));
            }
        }
        return places;
    }

    private static void around(int n, int k, int place, int[] xOf) {
        int count = 0;
        int sum = 0;
        for (int y = 0; y <= place; y++) {
            if (xOf[y] != -2) {
                count++;
                sum += y;
            }
        }
        int next = place;
        while (next <= GREATEST_Y && xOf[next] == -2) {
            next++;
        }
        String with = "(" + k + ", " + place + ")";
        due(n, "solutions" + with, deskFor(n).solutions(k, place), count);
        due(n, "sum" + with, deskFor(n).sum(k, place), sum);
        due(n, "next" + with, deskFor(n).next(k, place), next > GREATEST_Y ? -2 : next);
    }
}
