/** The example of README.md: its calls on one object, in its order, with the answers that it shows. */
public final class ReadmeTest {
    private static int wrong = 0;

    public static void main(String[] args) {
        SquareDesk desk = new SquareDesk();
        due("period()", desk.period(), 1);
        due("root(1, 2)", desk.root(1, 2), 3);
        due("solutions(2, 3000)", desk.solutions(2, 3000), -1);

        due("set(61)", desk.set(61), 0);
        due("set(64)", desk.set(64), -1);
        due("term(0)", desk.term(0), 7);
        due("term(11)", desk.term(11), 14);
        due("term(101)", desk.term(101), -1);
        due("period()", desk.period(), 11);
        due("solutions(4, 3000)", desk.solutions(4, 3000), 2);
        due("next(4, 1)", desk.next(4, 1), 195);
        due("next(4, 196)", desk.next(4, 196), -2);
        due("next(4, 3001)", desk.next(4, 3001), -1);
        due("root(4, 195)", desk.root(4, 195), 1523);
        due("root(4, 1)", desk.root(4, 1), -2);
        due("root(8, 1)", desk.root(8, 1), -1);
        due("sum(4, 3000)", desk.sum(4, 3000), 195);
        System.out.println(wrong == 0 ? "all answers are as shown" : wrong + " answers are not as shown");
        if (wrong != 0) {
            System.exit(1);
        }
    }

    private static void due(String call, int got, int shown) {
        if (got != shown) {
            wrong++;
            System.out.println(call + " answered " + got + ", README.md shows " + shown);
        }
    }
}
