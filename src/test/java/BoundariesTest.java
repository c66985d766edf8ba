/**
 * Each sentence of the document that names a boundary case, one method for each. Where a
 * refused call would have a solution were it not refused, that call is the one made, so
 * that the refusal alone decides the answer.
 */
public final class BoundariesTest {
    // Their squares wrap around, some of them to a number that is less than n.
    private static final int[] WILD = {
        Integer.MIN_VALUE, Integer.MIN_VALUE + 1, -65536, -46341, 46341, 65536, 65537, 1 << 30, Integer.MAX_VALUE
    };

    private static final int[] TOO_SMALL_OR_TOO_LARGE_K = {
        -10, -11, -12, -100, 10, 11, 12, 100,
        Integer.MIN_VALUE, Integer.MIN_VALUE + 1, -65536, -46341, 46341, 65536, 65537, 1 << 30, Integer.MAX_VALUE
    };

    // n, a k that is refused for it, and a y for which there is an x with x * x - n * y * y = k.
    private static final int[][] REFUSED_K_WITH_SOLUTION = {
        {2, 0, 0}, {120, 0, 0},
        {106, 10, 27}, {106, -10, 7}, {111, 10, 1}, {110, -10, 1},
        {2, 2, 1}, {3, -2, 1}, {6, 3, 1}, {7, -3, 1}, {15, 4, 2}, {13, -4, 1}, {20, 5, 1}, {21, -5, 1},
        {30, 6, 1}, {31, -6, 1}, {42, 7, 1}, {46, -7, 4}, {62, 8, 2}, {59, -8, 6}, {80, 9, 3}, {74, -9, 15}
    };

    // For each k, the least n above k * k that has a solution: n, k, how many there are up to 3000,
    // the first y, its x, the sum of the y.
    private static final int[][] ACCEPTED_K = {
        {2, 1, 6, 0, 1, 2870}, {2, -1, 5, 1, 1, 1189}, {7, 2, 3, 1, 3, 289}, {6, -2, 4, 1, 2, 980},
        {13, 3, 3, 1, 4, 1441}, {12, -3, 4, 1, 3, 2716}, {17, 4, 3, 0, 2, 1072}, {17, -4, 2, 2, 8, 132},
        {29, 5, 2, 2, 11, 420}, {29, -5, 2, 3, 16, 286}, {43, 6, 2, 1, 7, 236}, {42, -6, 3, 1, 6, 675},
        {53, 7, 2, 3, 22, 1456}, {53, -7, 2, 4, 29, 1100}, {71, 8, 1, 14, 118, 14}, {66, -8, 2, 2, 16, 260},
        {82, 9, 2, 0, 3, 54}, {82, -9, 2, 3, 27, 978}
    };

    private static String sentence = "";
    private static int wrong = 0;

    public static void main(String[] args) {
        atMost512Calls();
        setRefuses();
        refusedSetChangesNothing();
        termRefuses();
        termsRepeat();
        solutionsRefuses();
        solutionsUpToTheLimit();
        nextFindsNone();
        nextRefuses();
        nextStaysInItsRange();
        rootFindsNone();
        rootRefuses();
        sumRefuses();
        sumUpToTheLimit();
        refusedBeforeNone();
        refusedQuestionsChangeNothing();
        System.out.println(wrong == 0 ? "all answers are as due" : wrong + " answers are not as due");
        if (wrong != 0) {
            System.exit(1);
        }
    }

    private static void due(String call, int got, int want) {
        if (got != want) {
            wrong++;
            System.out.println(sentence + ": " + call + " answered " + got + ", due is " + want);
        }
    }

    private static SquareDesk desk(int n) {
        SquareDesk desk = new SquareDesk();
        due("set(" + n + ")", desk.set(n), 0);
        return desk;
    }

    private static void dueTerm(int n, int number, int want) {
        due("n = " + n + ", term(" + number + ")", desk(n).term(number), want);
    }

    private static void dueSolutions(int n, int k, int limit, int want) {
        due("n = " + n + ", solutions(" + k + ", " + limit + ")", desk(n).solutions(k, limit), want);
    }

    private static void dueNext(int n, int k, int from, int want) {
        due("n = " + n + ", next(" + k + ", " + from + ")", desk(n).next(k, from), want);
    }

    private static void dueRoot(int n, int k, int y, int want) {
        due("n = " + n + ", root(" + k + ", " + y + ")", desk(n).root(k, y), want);
    }

    private static void dueSum(int n, int k, int limit, int want) {
        due("n = " + n + ", sum(" + k + ", " + limit + ")", desk(n).sum(k, limit), want);
    }

    // What it is: "An object is used for at most 512 calls after it has been made"

    private static void atMost512Calls() {
        sentence = "What it is, 512 calls";
        SquareDesk desk = new SquareDesk();
        for (int call = 1; call <= 512; call += 8) {
            due("call " + call + ", set(61)", desk.set(61), 0);
            due("call " + (call + 1) + ", term(11)", desk.term(11), 14);
            due("call " + (call + 2) + ", period()", desk.period(), 11);
            due("call " + (call + 3) + ", solutions(4, 3000)", desk.solutions(4, 3000), 2);
            due("call " + (call + 4) + ", next(4, 1)", desk.next(4, 1), 195);
            due("call " + (call + 5) + ", root(4, 195)", desk.root(4, 195), 1523);
            due("call " + (call + 6) + ", sum(4, 3000)", desk.sum(4, 3000), 195);
            due("call " + (call + 7) + ", set(121)", desk.set(121), -1);
        }
        due("set(120) as call 512", usedFor511Calls().set(120), 0);
        due("set(121) as call 512", usedFor511Calls().set(121), -1);
        due("term(11) as call 512", usedFor511Calls().term(11), 14);
        due("period() as call 512", usedFor511Calls().period(), 11);
        due("solutions(4, 3000) as call 512", usedFor511Calls().solutions(4, 3000), 2);
        due("next(4, 1) as call 512", usedFor511Calls().next(4, 1), 195);
        due("root(4, 195) as call 512", usedFor511Calls().root(4, 195), 1523);
        due("sum(4, 3000) as call 512", usedFor511Calls().sum(4, 3000), 195);
    }

    private static SquareDesk usedFor511Calls() {
        SquareDesk desk = new SquareDesk();
        for (int call = 1; call <= 511; call++) {
            int n = call % 2 == 0 ? 94 : 61;
            due("call " + call + ", set(" + n + ")", desk.set(n), 0);
        }
        return desk;
    }

    // Promise 2: "-1, and changes nothing, if it is not from 2 to 120 or is a square."

    private static void dueSet(int n, int want) {
        due("set(" + n + ")", new SquareDesk().set(n), want);
        due("n = 61, set(" + n + ")", desk(61).set(n), want);
    }

    private static void setRefuses() {
        sentence = "Promise 2, too small";
        for (int n = -130; n <= 1; n++) {
            dueSet(n, -1);
        }
        sentence = "Promise 2, too large";
        for (int n = 121; n <= 400; n++) {
            dueSet(n, -1);
        }
        // The last bits of these alone would be a number that can be set.
        dueSet(65536 + 2, -1);
        dueSet(Integer.MIN_VALUE + 2, -1);
        for (int n : WILD) {
            dueSet(n, -1);
        }
        sentence = "Promise 2, squares and their neighbours";
        for (int r = 2; r <= 10; r++) {
            dueSet(r * r - 1, 0);
            dueSet(r * r, -1);
            dueSet(r * r + 1, 0);
        }
        sentence = "Promise 2, the ends of the range";
        dueSet(2, 0);
        dueSet(3, 0);
        dueSet(119, 0);
        dueSet(120, 0);
    }

    private static void refusedSetChangesNothing() {
        sentence = "Promise 2, a refused call changes nothing";
        int[] tooSmall = {1, 0, -1, -2, -61, Integer.MIN_VALUE};
        int[] tooLarge = {121, 122, 128, 144, 65536 + 2, Integer.MAX_VALUE};
        int[] squares = {4, 9, 16, 25, 36, 49, 64, 81, 100};
        for (int[] refused : new int[][] {tooSmall, tooLarge, squares}) {
            for (int n : refused) {
                stays2(n);
                stays61(n);
            }
        }
    }

    private static void stays2(int refused) {
        SquareDesk desk = new SquareDesk();
        String when = "new, set(" + refused + "), ";
        due(when, desk.set(refused), -1);
        due(when + "term(0)", desk.term(0), 1);
        due(when + "term(1)", desk.term(1), 2);
        due(when + "term(100)", desk.term(100), 2);
        due(when + "period()", desk.period(), 1);
        due(when + "solutions(1, 3000)", desk.solutions(1, 3000), 6);
        due(when + "solutions(2, 3000)", desk.solutions(2, 3000), -1);
        due(when + "next(1, 3)", desk.next(1, 3), 12);
        due(when + "root(1, 12)", desk.root(1, 12), 17);
        due(when + "sum(-1, 3000)", desk.sum(-1, 3000), 1189);
    }

    private static void stays61(int refused) {
        SquareDesk desk = desk(61);
        String when = "n = 61, set(" + refused + "), ";
        int[] repeating = {1, 4, 3, 1, 2, 2, 1, 3, 4, 1, 14};
        due(when, desk.set(refused), -1);
        due(when + "term(0)", desk.term(0), 7);
        for (int number = 1; number <= 100; number++) {
            due(when + "term(" + number + ")", desk.term(number), repeating[(number - 1) % 11]);
        }
        due(when + "period()", desk.period(), 11);
        due(when + "solutions(4, 3000)", desk.solutions(4, 3000), 2);
        due(when + "solutions(8, 3000)", desk.solutions(8, 3000), -1);
        due(when + "next(5, 0)", desk.next(5, 0), 58);
        due(when + "root(4, 195)", desk.root(4, 195), 1523);
        due(when + "sum(-4, 3000)", desk.sum(-4, 3000), 5);
    }

    // Promise 3: "-1 if number is not from 0 to 100."

    private static void termRefuses() {
        sentence = "Promise 3, too small";
        for (int n : new int[] {2, 61, 120}) {
            dueTerm(n, -1, -1);
            dueTerm(n, -2, -1);
            dueTerm(n, -101, -1);
        }
        sentence = "Promise 3, too large";
        for (int n : new int[] {2, 61, 120}) {
            dueTerm(n, 101, -1);
            dueTerm(n, 102, -1);
            dueTerm(n, 128, -1);
            dueTerm(n, 256, -1);
        }
        for (int number : WILD) {
            dueTerm(2, number, -1);
        }
        sentence = "Promise 3, the ends of the range";
        dueTerm(2, 0, 1);
        dueTerm(2, 100, 2);
        dueTerm(61, 0, 7);
        dueTerm(61, 99, 14);
        dueTerm(61, 100, 1);
        dueTerm(120, 0, 10);
        dueTerm(120, 99, 1);
        dueTerm(120, 100, 20);
    }

    // Terms: "The terms from number 1 on repeat with a least PERIOD."

    private static void termsRepeat() {
        sentence = "Promises 3 and 4, the terms repeat";
        // The shortest period.
        due("n = 2, period()", desk(2).period(), 1);
        dueTerm(2, 1, 2);
        dueTerm(2, 2, 2);
        // The longest period; 18 stands at its end and term 0 is no part of it.
        due("n = 94, period()", desk(94).period(), 16);
        dueTerm(94, 0, 9);
        dueTerm(94, 1, 1);
        dueTerm(94, 15, 1);
        dueTerm(94, 16, 18);
        dueTerm(94, 17, 1);
        dueTerm(94, 96, 18);
        dueTerm(94, 97, 1);
        // Equal terms inside the period do not end it.
        due("n = 7, period()", desk(7).period(), 4);
        dueTerm(7, 1, 1);
        dueTerm(7, 2, 1);
        dueTerm(7, 3, 1);
        dueTerm(7, 4, 4);
        dueTerm(7, 5, 1);
        due("n = 120, period()", desk(120).period(), 2);
    }

    // Promise 5: "-1 if k is not from -9 to 9, k = 0, or k * k is not less than n, or limit is not from 0 to 3000."

    private static void solutionsRefuses() {
        sentence = "Promise 5, refused k";
        for (int[] row : REFUSED_K_WITH_SOLUTION) {
            dueSolutions(row[0], row[1], row[2], -1);
            dueSolutions(row[0], row[1], 3000, -1);
        }
        for (int k : TOO_SMALL_OR_TOO_LARGE_K) {
            dueSolutions(120, k, 3000, -1);
        }
        sentence = "Promise 5, k * k on each side of n";
        for (int k = 2; k <= 9; k++) {
            dueSolutions(k * k - 1, k, 0, -1);
            dueSolutions(k * k - 1, -k, 0, -1);
            dueSolutions(k * k + 1, k, 0, k == 4 || k == 9 ? 1 : 0);
            dueSolutions(k * k + 1, -k, 0, 0);
        }
        sentence = "Promise 5, accepted k";
        for (int[] row : ACCEPTED_K) {
            dueSolutions(row[0], row[1], 3000, row[2]);
        }
        sentence = "Promise 5, refused limit";
        dueSolutions(2, 1, -1, -1);
        dueSolutions(2, 1, -3000, -1);
        dueSolutions(2, 1, 3001, -1);
        dueSolutions(2, -1, 5741, -1);
        for (int limit : WILD) {
            dueSolutions(2, 1, limit, -1);
        }
    }

    private static void solutionsUpToTheLimit() {
        sentence = "Promise 5, the ends of the range of limit";
        dueSolutions(2, 1, 0, 1);
        dueSolutions(2, -1, 0, 0);
        dueSolutions(3, 1, 2999, 8);
        dueSolutions(3, 1, 3000, 8);
        sentence = "Promise 5, y <= limit";
        dueSolutions(3, 1, 2910, 7);
        dueSolutions(3, 1, 2911, 8);
        dueSolutions(2, -1, 1, 1);
        // One more solution has y = 3048.
        dueSolutions(112, 1, 3000, 2);
        sentence = "Promise 5, no solution";
        dueSolutions(61, -1, 3000, 0);
        dueSolutions(120, -9, 3000, 0);
    }

    // Promise 6: "-2 if there is none; -1 if k is refused as in solutions or from is not from 0 to 3000."

    private static void nextFindsNone() {
        sentence = "Promise 6, none";
        dueNext(94, 5, 0, -2);
        dueNext(120, -9, 0, -2);
        dueNext(94, 4, 1, -2);
        dueNext(3, 1, 2912, -2);
        dueNext(2, 1, 3000, -2);
        sentence = "Promise 6, none up to 3000, but one beyond";
        dueNext(61, -1, 0, -2);
        dueNext(61, -1, 3000, -2);
        dueNext(85, -9, 124, -2);
        dueNext(112, 1, 3000, -2);
    }

    private static void nextRefuses() {
        sentence = "Promise 6, refused k";
        for (int[] row : REFUSED_K_WITH_SOLUTION) {
            dueNext(row[0], row[1], row[2], -1);
            dueNext(row[0], row[1], 0, -1);
        }
        for (int k : TOO_SMALL_OR_TOO_LARGE_K) {
            dueNext(120, k, 0, -1);
        }
        sentence = "Promise 6, k * k on each side of n";
        for (int k = 2; k <= 9; k++) {
            dueNext(k * k - 1, k, 0, -1);
            dueNext(k * k - 1, -k, 0, -1);
            dueNext(k * k + 1, k, 0, k == 4 || k == 9 ? 0 : -2);
            dueNext(k * k + 1, -k, 0, k == 4 ? 2 : k == 9 ? 3 : -2);
        }
        sentence = "Promise 6, accepted k";
        for (int[] row : ACCEPTED_K) {
            dueNext(row[0], row[1], 0, row[3]);
        }
        sentence = "Promise 6, refused from";
        dueNext(2, 1, -1, -1);
        dueNext(2, -1, -1, -1);
        dueNext(2, 1, -3000, -1);
        dueNext(2, 1, 3001, -1);
        dueNext(112, 1, 3048, -1);
        for (int from : WILD) {
            dueNext(2, 1, from, -1);
        }
    }

    private static void nextStaysInItsRange() {
        sentence = "Promise 6, y >= from";
        dueNext(2, 1, 0, 0);
        dueNext(2, 1, 1, 2);
        dueNext(2, 1, 2, 2);
        dueNext(2, 1, 3, 12);
        dueNext(3, 1, 2910, 2911);
        dueNext(3, 1, 2911, 2911);
        // The solution with the greatest y that can be asked for.
        dueNext(83, 4, 2951, 2952);
        dueNext(83, 4, 2952, 2952);
        dueNext(83, 4, 2953, -2);
    }

    // Promise 7: "-2 if there is none; -1 if k is refused as in solutions or y is not from 0 to 3000."

    private static void rootFindsNone() {
        sentence = "Promise 7, none";
        // x * x would be less than 0.
        dueRoot(2, -1, 0, -2);
        dueRoot(82, -9, 0, -2);
        dueRoot(2, 1, 1, -2);
        dueRoot(2, 1, 11, -2);
        dueRoot(2, 1, 13, -2);
        dueRoot(82, -9, 2, -2);
        dueRoot(82, -9, 4, -2);
        // The greatest number whose root is sought.
        dueRoot(120, 9, 3000, -2);
        dueRoot(2, 1, 3000, -2);
    }

    private static void rootRefuses() {
        sentence = "Promise 7, refused k";
        for (int[] row : REFUSED_K_WITH_SOLUTION) {
            dueRoot(row[0], row[1], row[2], -1);
        }
        for (int k : TOO_SMALL_OR_TOO_LARGE_K) {
            dueRoot(120, k, 0, -1);
        }
        sentence = "Promise 7, k * k on each side of n";
        for (int k = 2; k <= 9; k++) {
            dueRoot(k * k - 1, k, 0, -1);
            dueRoot(k * k - 1, -k, 0, -1);
            dueRoot(k * k + 1, k, 0, k == 4 ? 2 : k == 9 ? 3 : -2);
            dueRoot(k * k + 1, -k, 0, -2);
        }
        sentence = "Promise 7, accepted k";
        for (int[] row : ACCEPTED_K) {
            dueRoot(row[0], row[1], row[3], row[4]);
        }
        sentence = "Promise 7, refused y";
        // Each of these y, but for the refusal, has an x.
        dueRoot(3, 1, -1, -1);
        dueRoot(2, -1, -1, -1);
        dueRoot(2, -1, -5, -1);
        dueRoot(2, -1, 5741, -1);
        dueRoot(85, -9, 3029, -1);
        dueRoot(112, 1, 3048, -1);
        dueRoot(112, 1, 3001, -1);
        for (int y : WILD) {
            dueRoot(2, 1, y, -1);
        }
        sentence = "Promise 7, the greatest y and the greatest x";
        dueRoot(83, 4, 2952, 26894);
        dueRoot(116, 9, 2730, 29403);
    }

    // Promise 8: "-1 if refused as in solutions."

    private static void sumRefuses() {
        sentence = "Promise 8, refused k";
        for (int[] row : REFUSED_K_WITH_SOLUTION) {
            dueSum(row[0], row[1], row[2], -1);
            dueSum(row[0], row[1], 3000, -1);
        }
        for (int k : TOO_SMALL_OR_TOO_LARGE_K) {
            dueSum(120, k, 3000, -1);
        }
        sentence = "Promise 8, k * k on each side of n";
        for (int k = 2; k <= 9; k++) {
            dueSum(k * k - 1, k, 0, -1);
            dueSum(k * k - 1, -k, 0, -1);
            dueSum(k * k + 1, k, 0, 0);
            dueSum(k * k + 1, -k, 0, 0);
        }
        sentence = "Promise 8, accepted k";
        for (int[] row : ACCEPTED_K) {
            dueSum(row[0], row[1], 3000, row[5]);
        }
        sentence = "Promise 8, refused limit";
        dueSum(2, 1, -1, -1);
        dueSum(2, 1, -3000, -1);
        dueSum(2, 1, 3001, -1);
        dueSum(2, -1, 5741, -1);
        for (int limit : WILD) {
            dueSum(2, 1, limit, -1);
        }
    }

    private static void sumUpToTheLimit() {
        sentence = "Promise 8, the ends of the range of limit";
        dueSum(2, 1, 0, 0);
        dueSum(2, -1, 0, 0);
        // The greatest sum that can be asked for.
        dueSum(3, 1, 2999, 3976);
        dueSum(3, 1, 3000, 3976);
        sentence = "Promise 8, y <= limit";
        dueSum(3, 1, 2910, 1065);
        dueSum(3, 1, 2911, 3976);
        dueSum(2, -1, 1, 1);
        dueSum(112, 1, 3000, 12);
        sentence = "Promise 8, nothing to add";
        dueSum(61, -1, 3000, 0);
        dueSum(94, 4, 3000, 0);
    }

    // Promise 9: "next, root: -1 is tested before -2."

    private static void refusedBeforeNone() {
        sentence = "Promise 9, -1 before -2";
        // Refused k, and no solution for it: x * x leaves none of these k over a multiple of n.
        for (int k : new int[] {3, 5, 10, -4, -8}) {
            dueNext(7, k, 0, -1);
            dueNext(7, k, 3000, -1);
            dueRoot(7, k, 0, -1);
            dueRoot(7, k, 3000, -1);
        }
        // Without y = 0 there is no solution for 0.
        dueNext(7, 0, 1, -1);
        dueRoot(7, 0, 1, -1);
        // Refused y, and no solution there, beside the same k with y in its range.
        dueNext(7, -1, 3000, -2);
        dueNext(7, -1, 3001, -1);
        dueNext(7, -1, 0, -2);
        dueNext(7, -1, -1, -1);
        dueRoot(7, -1, 3000, -2);
        dueRoot(7, -1, 3001, -1);
        dueRoot(7, -1, 0, -2);
        dueRoot(7, -1, -1, -1);
        // Both refused.
        dueNext(7, 3, 3001, -1);
        dueNext(7, 10, -1, -1);
        dueRoot(7, 3, 3001, -1);
        dueRoot(7, 10, -1, -1);
    }

    private static void refusedQuestionsChangeNothing() {
        sentence = "Refused questions change nothing";
        SquareDesk desk = desk(13);
        for (int i = 0; i < 3; i++) {
            due("term(101)", desk.term(101), -1);
            due("term(-1)", desk.term(-1), -1);
            due("solutions(4, 3000)", desk.solutions(4, 3000), -1);
            due("next(3, 3001)", desk.next(3, 3001), -1);
            due("next(2, 0)", desk.next(2, 0), -2);
            due("root(0, 0)", desk.root(0, 0), -1);
            due("root(3, 2)", desk.root(3, 2), -2);
            due("sum(3, -1)", desk.sum(3, -1), -1);
            due("term(5)", desk.term(5), 6);
            due("period()", desk.period(), 5);
            due("solutions(3, 3000)", desk.solutions(3, 3000), 3);
            due("next(3, 2)", desk.next(3, 2), 71);
            due("root(1, 180)", desk.root(1, 180), 649);
            due("sum(3, 3000)", desk.sum(3, 3000), 1441);
        }
    }
}
