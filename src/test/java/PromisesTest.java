/** Each promise of the document by hand with ordinary inputs; BoundariesTest has the edges and the wrong inputs. */
public final class PromisesTest {
    private static int wrong = 0;

    public static void main(String[] args) {
        newObject();
        set();
        term();
        period();
        solutions();
        next();
        root();
        sum();
        objectsAreApart();
        callsThatAskChangeNothing();
        System.out.println(wrong == 0 ? "all answers are as due" : wrong + " answers are not as due");
        if (wrong != 0) {
            System.exit(1);
        }
    }

    private static void due(String call, int got, int want) {
        if (got != want) {
            wrong++;
            System.out.println(call + " answered " + got + ", due is " + want);
        }
    }

    private static SquareDesk desk(int n) {
        SquareDesk desk = new SquareDesk();
        due("set(" + n + ")", desk.set(n), 0);
        return desk;
    }

    // Promise 1

    private static void newObject() {
        due("new: term(0)", new SquareDesk().term(0), 1);
        due("new: term(1)", new SquareDesk().term(1), 2);
        due("new: term(100)", new SquareDesk().term(100), 2);
        due("new: period()", new SquareDesk().period(), 1);
        due("new: root(1, 2)", new SquareDesk().root(1, 2), 3);
        due("new: root(-1, 5)", new SquareDesk().root(-1, 5), 7);
        due("new: next(1, 3)", new SquareDesk().next(1, 3), 12);
        due("new: solutions(1, 3000)", new SquareDesk().solutions(1, 3000), 6);
        due("new: sum(-1, 3000)", new SquareDesk().sum(-1, 3000), 1189);
        due("new: solutions(2, 3000)", new SquareDesk().solutions(2, 3000), -1);
    }

    // Promise 2

    private static void set() {
        SquareDesk desk = new SquareDesk();
        for (int n = -130; n <= 130; n++) {
            boolean square = n == 4 || n == 9 || n == 16 || n == 25 || n == 36
                || n == 49 || n == 64 || n == 81 || n == 100;
            due("set(" + n + ")", desk.set(n), n < 2 || n > 120 || square ? -1 : 0);
        }
        due("after 120: root(1, 1)", desk.root(1, 1), 11);
        due("set(2)", desk.set(2), 0);
        due("set(2) again", desk.set(2), 0);
        due("after 2: root(1, 2)", desk.root(1, 2), 3);
    }

    // Promise 3

    private static void term() {
        SquareDesk desk = desk(7);
        int[] row = {2, 1, 1, 1, 4, 1, 1, 1, 4, 1};
        for (int i = 0; i < row.length; i++) {
            due("7: term(" + i + ")", desk.term(i), row[i]);
        }
        due("7: term(99)", desk.term(99), 1);
        due("7: term(100)", desk.term(100), 4);
        due("set(120)", desk.set(120), 0);
        due("120: term(0)", desk.term(0), 10);
        due("120: term(1)", desk.term(1), 1);
        due("120: term(100)", desk.term(100), 20);
    }

    // Promise 4

    private static void period() {
        due("3: period()", desk(3).period(), 2);
        due("5: period()", desk(5).period(), 1);
        due("7: period()", desk(7).period(), 4);
        due("61: period()", desk(61).period(), 11);
        due("94: period()", desk(94).period(), 16);
        due("119: period()", desk(119).period(), 4);
        due("120: period()", desk(120).period(), 2);
        SquareDesk desk = desk(94);
        due("set(2)", desk.set(2), 0);
        due("94, then 2: period()", desk.period(), 1);
    }

    // Promise 5

    private static void solutions() {
        SquareDesk desk = new SquareDesk();
        due("2: solutions(1, 0)", desk.solutions(1, 0), 1);
        due("2: solutions(-1, 0)", desk.solutions(-1, 0), 0);
        due("2: solutions(1, 1)", desk.solutions(1, 1), 1);
        due("2: solutions(1, 2)", desk.solutions(1, 2), 2);
        due("2: solutions(1, 11)", desk.solutions(1, 11), 2);
        due("2: solutions(1, 12)", desk.solutions(1, 12), 3);
        due("2: solutions(-1, 3000)", desk.solutions(-1, 3000), 5);
        due("61: solutions(-1, 3000)", desk(61).solutions(-1, 3000), 0);
        due("99: solutions(9, 3000)", desk(99).solutions(9, 3000), 4);
        due("82: solutions(-9, 3000)", desk(82).solutions(-9, 3000), 2);
    }

    // Promise 6

    private static void next() {
        SquareDesk desk = new SquareDesk();
        due("2: next(1, 0)", desk.next(1, 0), 0);
        due("2: next(1, 1)", desk.next(1, 1), 2);
        due("2: next(1, 2)", desk.next(1, 2), 2);
        due("2: next(1, 3)", desk.next(1, 3), 12);
        due("2: next(-1, 0)", desk.next(-1, 0), 1);
        due("2: next(1, 2378)", desk.next(1, 2378), 2378);
        due("2: next(1, 2379)", desk.next(1, 2379), -2);
        due("2: next(1, 3000)", desk.next(1, 3000), -2);
        due("61: next(-1, 0)", desk(61).next(-1, 0), -2);
        due("94: next(5, 0)", desk(94).next(5, 0), -2);
        due("116: next(9, 2730)", desk(116).next(9, 2730), 2730);
        due("116: next(9, 2731)", desk(116).next(9, 2731), -2);
        due("83: next(4, 2000)", desk(83).next(4, 2000), 2952);
    }

    // Promise 7

    private static void root() {
        SquareDesk desk = new SquareDesk();
        due("2: root(1, 0)", desk.root(1, 0), 1);
        due("2: root(-1, 0)", desk.root(-1, 0), -2);
        due("2: root(-1, 1)", desk.root(-1, 1), 1);
        due("2: root(1, 1)", desk.root(1, 1), -2);
        due("2: root(1, 2378)", desk.root(1, 2378), 3363);
        due("2: root(1, 3000)", desk.root(1, 3000), -2);
        due("82: root(9, 0)", desk(82).root(9, 0), 3);
        due("82: root(-9, 0)", desk(82).root(-9, 0), -2);
        due("82: root(-9, 3)", desk(82).root(-9, 3), 27);
        due("120: root(9, 3000)", desk(120).root(9, 3000), -2);
        // The greatest x of any solution that can be asked for.
        due("116: root(9, 2730)", desk(116).root(9, 2730), 29403);
    }

    // Promise 8

    private static void sum() {
        SquareDesk desk = new SquareDesk();
        due("2: sum(1, 0)", desk.sum(1, 0), 0);
        due("2: sum(1, 1)", desk.sum(1, 1), 0);
        due("2: sum(1, 2)", desk.sum(1, 2), 2);
        due("2: sum(1, 11)", desk.sum(1, 11), 2);
        due("2: sum(1, 12)", desk.sum(1, 12), 14);
        due("2: sum(1, 3000)", desk.sum(1, 3000), 2870);
        due("61: sum(-1, 3000)", desk(61).sum(-1, 3000), 0);
        due("82: sum(-9, 3000)", desk(82).sum(-9, 3000), 978);
    }

    // The state

    private static void objectsAreApart() {
        SquareDesk first = desk(61);
        SquareDesk second = desk(94);
        due("61 beside 94: period()", first.period(), 11);
        due("94 beside 61: period()", second.period(), 16);
        due("61 beside 94: term(0)", first.term(0), 7);
        due("94 beside 61: term(0)", second.term(0), 9);
        due("61 beside 94: next(5, 0)", first.next(5, 0), 58);
        due("94 beside 61: next(5, 0)", second.next(5, 0), -2);
    }

    private static void callsThatAskChangeNothing() {
        SquareDesk desk = desk(13);
        for (int i = 0; i < 3; i++) {
            due("13: solutions(3, 3000)", desk.solutions(3, 3000), 3);
            due("13: next(3, 2)", desk.next(3, 2), 71);
            due("13: root(1, 180)", desk.root(1, 180), 649);
            due("13: sum(3, 3000)", desk.sum(3, 3000), 1441);
            due("13: term(5)", desk.term(5), 6);
            due("13: period()", desk.period(), 5);
        }
    }
}
