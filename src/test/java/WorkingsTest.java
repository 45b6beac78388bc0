/** Promises 11 to 17: adding, times, parting and roots, step by step, each kept as a board. */
public final class WorkingsTest {
    private static final long LOST = -1000000000000000L;
    private static final long BEYOND = 1000000000000L;
    private static final Due due = new Due("WorkingsTest");

    public static void main(String[] args) {
        add();
        addThroughZero();
        addOfOne();
        addRowToItself();
        addOfFullRow();
        addRefused();
        addToBeyondAtLastStep();
        times();
        timesOneDigitEach();
        timesAtHighestPlace();
        timesOfColours();
        timesOfOnes();
        timesRefused();
        timesToBeyondAtLastStep();
        part();
        partOfLessAndMore();
        partEmptiesC();
        partRefused();
        root();
        rootOfLeastNumbers();
        rootJustBelowAPower();
        rootEmptiesB();
        rootRefused();
        boards();
        boardsOfTheLongest();
        boardsStayWhereRefused();
        board();
        note();
        noteOfEachKind();
        due.end();
    }

    private static RodBoard with(long... rows) {
        RodBoard board = new RodBoard();
        for (int row = 0; row < rows.length; row++) board.lay(row, rows[row]);
        return board;
    }

    private static long[] parts(RodBoard board, int step) {
        long[] parts = new long[6];
        for (int what = 0; what < 6; what++) parts[what] = board.note(step, what);
        return parts;
    }

    /** What a row held on all boards. */
    private static long[] course(RodBoard board, int row) {
        long[] held = new long[board.boards()];
        for (int i = 0; i < held.length; i++) held[i] = board.board(i, row);
        return held;
    }

    private static void add() {
        RodBoard board = with(358, 7049);
        due.is("steps", board.add(0, 1), 3);
        due.are("a", course(board, 0), 358, 7358, 7398, 7407);
        due.are("b", course(board, 1), 7049, 7049, 7049, 7049);
        due.are("note 0", parts(board, 0), 0, 0, 3, 7, 1, -6);
        due.are("note 1", parts(board, 1), 0, 0, 1, 4, 1, -6);
        due.are("note 2", parts(board, 2), 0, 0, 0, 9, 1, -6);
        due.is("sum", board.number(0), 7407);

        board = with(0, 0, 5, 0, 0, -205);
        due.is("a black b takes away", board.add(2, 5), 2);
        due.are("a", course(board, 2), 5, -195, -200);
        due.are("note", parts(board, 0), 0, 2, 2, -2, 5, -6);

        board = with(123);
        due.is("a row to itself", board.add(0, 0), 3);
        due.are("digits are those of the beginning", course(board, 0), 123, 223, 243, 246);

        board = with(77);
        due.is("an empty row", board.add(0, 3), 0);
        due.is("boards", board.boards(), 1);

        board = with(BEYOND - 2, 1);
        due.is("just below BEYOND", board.add(0, 1), 1);
        due.is("sum", board.number(0), BEYOND - 1);
        board = with(1 - BEYOND, BEYOND - 1);
        due.is("from the least by the most", board.add(0, 1), 12);
        due.is("sum", board.number(0), 0);
    }

    private static void addThroughZero() {
        RodBoard board = with(-50, 75);
        due.is("black to red", board.add(0, 1), 2);
        due.are("a", course(board, 0), -50, 20, 25);
        board = with(50, -75);
        due.is("red to black", board.add(0, 1), 2);
        due.are("a", course(board, 0), 50, -20, -25);
        due.is("colour", board.about(0, 0), 2);
        board = with(-75, 75);
        due.is("to nothing", board.add(0, 1), 2);
        due.is("empty", board.about(0, 0), 0);
    }

    private static void addOfOne() {
        RodBoard board = with(0, -1);
        due.is("black one", board.add(0, 1), 1);
        due.are("note", parts(board, 0), 0, 0, 0, -1, 1, -6);
        due.is("a", board.number(0), -1);
        board = with(-1, 1);
        due.is("red one", board.add(0, 1), 1);
        due.are("note", parts(board, 0), 0, 0, 0, 1, 1, -6);
        due.is("a", board.number(0), 0);
    }

    private static void addRowToItself() {
        RodBoard board = with(-205);
        due.is("a black row", board.add(0, 0), 2);
        due.are("a", course(board, 0), -205, -405, -410);
        due.are("note", parts(board, 1), 0, 0, 0, -5, 0, -6);
        board = with(0, 7);
        due.is("an empty row", board.add(0, 0), 0);
        due.is("one board", board.boards(), 1);
        board = with(BEYOND / 2 - 1);
        due.is("the most", board.add(0, 0), 12);
        due.is("a", board.number(0), BEYOND - 2);
        board = with(1 - BEYOND / 2);
        due.is("the least", board.add(0, 0), 12);
        due.is("a", board.number(0), 2 - BEYOND);
        due.is("minus half of BEYOND", with(-BEYOND / 2).add(0, 0), -4);
    }

    private static void addOfFullRow() {
        RodBoard board = with(0, 1 - BEYOND);
        due.is("a step a place", board.add(0, 1), 12);
        due.are("first", parts(board, 0), 0, 0, 11, -9, 1, -6);
        due.are("last", parts(board, 11), 0, 0, 0, -9, 1, -6);
        due.is("a", board.number(0), 1 - BEYOND);
        due.is("b stays", board.number(1), 1 - BEYOND);
    }

    private static void addRefused() {
        RodBoard board = with(BEYOND - 1, 1, 20, 3);
        board.add(2, 3);
        board.copy();
        due.is("to BEYOND", board.add(0, 1), -4);
        due.is("no row a", board.add(8, 1), -1);
        due.is("no row b", board.add(0, -1), -1);
        due.is("a stays", board.number(0), BEYOND - 1);
        due.are("the boards stay", course(board, 2), 20, 23);
        due.is("and the copy", board.told(2), 1);
        board = with(1 - BEYOND, -1);
        due.is("to -BEYOND", board.add(0, 1), -4);
        board = with(BEYOND / 2);
        due.is("twice to BEYOND", board.add(0, 0), -4);
    }

    private static void addToBeyondAtLastStep() {
        RodBoard board = with(999999999899L, 101, -999999999899L, -101);
        due.is("above", board.add(0, 1), -4);
        due.is("a is as it was", board.number(0), 999999999899L);
        due.is("below", board.add(2, 3), -4);
        due.is("a is as it was", board.number(2), -999999999899L);
        due.is("no boards", board.boards(), 0);
        board.lay(1, 100);
        due.is("one less is not", board.add(0, 1), 1);
        due.is("a", board.number(0), BEYOND - 1);
        board.lay(3, -100);
        due.is("nor below", board.add(2, 3), 1);
        due.is("a", board.number(2), 1 - BEYOND);
    }

    private static void times() {
        RodBoard board = with(12, 304);
        due.is("steps", board.times(0, 1, 2), 4);
        due.are("c", course(board, 2), 0, 3000, 3040, 3640, 3648);
        due.are("note 0", parts(board, 0), 1, 2, 3, 3, -6, -6);
        due.are("note 1", parts(board, 1), 1, 2, 1, 4, -6, -6);
        due.are("note 2", parts(board, 2), 1, 2, 2, 6, -6, -6);
        due.are("note 3", parts(board, 3), 1, 2, 0, 8, -6, -6);
        due.is("a stays", board.number(0), 12);

        board = with(-9, 9, 5);
        due.is("c is emptied first", board.times(0, 1, 2), 2);
        due.are("c", course(board, 2), 5, 0, -81);
        due.are("emptying", parts(board, 0), 5, 2, 0, 0, -6, -6);
        due.are("a black", parts(board, 1), 1, 2, 0, -81, -6, -6);
        board = with(-9, -9);
        board.times(0, 1, 2);
        due.is("both black", board.number(2), 81);
        due.is("b black", with(9, -9).times(0, 1, 2), 1);

        board = with(0, 34, -5);
        due.is("nothing times b", board.times(0, 1, 2), 1);
        due.is("c is emptied", board.number(2), 0);
        due.is("nothing at all", board.times(0, 1, 2), 0);
        due.is("a times nothing", board.times(1, 0, 2), 0);

        board = with(1111111, 111111, 8);
        due.is("the longest", board.times(0, 1, 2), 43);
        due.is("c", board.number(2), 123456654321L);
        board = with(999999, -1000001);
        due.is("just below BEYOND", board.times(0, 1, 2), 12);
        due.is("c", board.number(2), 1 - BEYOND);
    }

    private static void timesOneDigitEach() {
        RodBoard board = with(1, 1);
        due.is("once one", board.times(0, 1, 2), 1);
        due.are("the least product", parts(board, 0), 1, 2, 0, 1, -6, -6);
        board = with(900000, 900000);
        due.is("nine times nine", board.times(0, 1, 2), 1);
        due.are("the greatest, at the place of both", parts(board, 0), 1, 2, 10, 81, -6, -6);
        due.is("c", board.number(2), 810000000000L);
        board = with(900000, -900000);
        due.is("black", board.times(0, 1, 2), 1);
        due.are("the least", parts(board, 0), 1, 2, 10, -81, -6, -6);
    }

    private static void timesAtHighestPlace() {
        RodBoard board = with(200000000000L, 3);
        due.is("a's", board.times(0, 1, 2), 1);
        due.are("note", parts(board, 0), 1, 2, 11, 6, -6, -6);
        due.is("b's", board.times(1, 0, 3), 1);
        due.are("note", parts(board, 0), 1, 3, 11, 6, -6, -6);
        due.is("c", board.number(3), 600000000000L);
        board = with(BEYOND - 1, 1);
        due.is("once the greatest", board.times(0, 1, 2), 12);
        due.is("c", board.number(2), BEYOND - 1);
        board = with(-1, BEYOND - 1);
        due.is("less", board.times(0, 1, 2), 12);
        due.is("c", board.number(2), 1 - BEYOND);
        board = with(500000000000L, 2);
        due.is("just BEYOND", board.times(0, 1, 2), -4);
    }

    private static void timesOfColours() {
        RodBoard board = with(-12, 3, 4 - BEYOND);
        due.is("a black", board.times(0, 1, 2), 3);
        due.are("c", course(board, 2), 4 - BEYOND, 0, -30, -36);
        board = with(12, -3, 1);
        board.times(0, 1, 2);
        due.are("b black", course(board, 2), 1, 0, -30, -36);
        board = with(-12, -3, 0);
        board.times(0, 1, 2);
        due.are("both black", course(board, 2), 0, 30, 36);
        board = with(-12, 0, -1);
        due.is("black times nothing", board.times(0, 1, 2), 1);
        due.are("c", course(board, 2), -1, 0);
    }

    private static void timesOfOnes() {
        for (int a = -1; a <= 1; a += 2) {
            for (int b = -1; b <= 1; b += 2) {
                RodBoard board = with(a, b);
                due.is(a + " times " + b, board.times(0, 1, 2), 1);
                due.are("note", parts(board, 0), 1, 2, 0, a * b, -6, -6);
                due.is("c", board.number(2), a * b);
            }
        }
    }

    private static void timesRefused() {
        RodBoard board = with(1000000, 1000000, 7);
        due.is("to BEYOND", board.times(0, 1, 2), -4);
        due.is("c is not emptied", board.number(2), 7);
        due.is("no boards", board.boards(), 0);
        board.lay(1, -1000000);
        due.is("to -BEYOND", board.times(0, 1, 2), -4);
        board = with(BEYOND - 1, 1 - BEYOND, 7);
        due.is("far beyond", board.times(0, 1, 2), -4);
        due.is("a is b", board.times(1, 1, 2), -3);
        due.is("a is c", board.times(1, 0, 1), -3);
        due.is("b is c", board.times(1, 0, 0), -3);
        due.is("no row c ahead of one row", board.times(1, 1, 8), -1);
        due.is("no row a", board.times(-1, 1, 1), -1);
        due.is("no row b", board.times(0, 8, 0), -1);
    }

    private static void timesToBeyondAtLastStep() {
        RodBoard board = with(999999, 1000002, 5, -999999);
        due.is("above", board.times(0, 1, 2), -4);
        due.is("below", board.times(3, 1, 2), -4);
        due.is("c is as it was", board.number(2), 5);
        due.is("no boards", board.boards(), 0);
        board.lay(1, 1000001);
        due.is("one less is not", board.times(0, 1, 2), 13);
        due.is("c", board.number(2), BEYOND - 1);
    }

    private static void part() {
        RodBoard board = with(0, 7049, 32, 6);
        due.is("steps", board.part(1, 2, 3), 3);
        due.are("a", course(board, 1), 7049, 7049, 649, 9);
        due.are("b", course(board, 2), 32, 32, 32, 32);
        due.are("c", course(board, 3), 6, 0, 200, 220);
        due.are("emptying", parts(board, 0), 5, 3, 0, 0, -6, -6);
        due.are("note 1", parts(board, 1), 2, 1, 2, 2, 2, 3);
        due.are("note 2", parts(board, 2), 2, 1, 1, 2, 2, 3);
        due.is("rest", board.number(1), 9);
        due.is("quotient", board.number(3), 220);

        board = with(BEYOND - 1, 1);
        due.is("all places", board.part(0, 1, 2), 12);
        due.are("from the highest", parts(board, 0), 2, 0, 11, 9, 1, 2);
        due.is("c", board.number(2), BEYOND - 1);
        board = with(BEYOND - 1, BEYOND - 1);
        due.is("by itself", board.part(0, 1, 2), 1);
        due.is("one", board.number(2), 1);
        due.is("nothing left", board.number(0), 0);
        due.is("an empty a", board.part(0, 1, 3), 0);
        board = with(5, 6, -4);
        due.is("a less than b", board.part(0, 1, 2), 1);
        due.is("c is emptied all the same", board.number(2), 0);
    }

    private static void partOfLessAndMore() {
        RodBoard board = with(31, 32);
        due.is("just less than b", board.part(0, 1, 2), 0);
        due.is("all is left", board.number(0), 31);
        board.lay(0, 32);
        due.is("as much as b", board.part(0, 1, 2), 1);
        due.is("nothing is left", board.number(0), 0);
        due.is("one", board.number(2), 1);
        board = with(319, 32);
        due.is("just less than ten times b", board.part(0, 1, 2), 1);
        due.are("digit 9", parts(board, 0), 2, 0, 0, 9, 1, 2);
        due.is("left", board.number(0), 31);
        board = with(32032, 32);
        due.is("empty places are no steps", board.part(0, 1, 2), 2);
        due.are("c", course(board, 2), 0, 1000, 1001);
        board = with(BEYOND - 2, BEYOND - 1);
        due.is("the greatest b is more", board.part(0, 1, 2), 0);
        board = with(BEYOND - 1, BEYOND / 10);
        due.is("at the highest place b", board.part(0, 1, 2), 1);
        due.is("left", board.number(0), BEYOND / 10 - 1);
    }

    private static void partEmptiesC() {
        RodBoard board = with(0, 5, BEYOND - 1);
        due.is("nothing is parted", board.part(0, 1, 2), 1);
        due.are("emptying alone", parts(board, 0), 5, 2, 0, 0, -6, -6);
        due.are("c", course(board, 2), BEYOND - 1, 0);
        board = with(7, 5, 0);
        due.is("an empty c is no step", board.part(0, 1, 2), 1);
        due.are("first", parts(board, 0), 2, 0, 0, 1, 1, 2);
        board = with(7, 5, -1);
        due.is("a black one is", board.part(0, 1, 2), 2);
        due.are("c", course(board, 2), -1, 0, 1);
    }

    private static void partRefused() {
        RodBoard board = with(-1, 1, -3, 9);
        due.is("a black", board.part(0, 1, 3), -5);
        due.is("b black", board.part(1, 2, 3), -5);
        due.is("b empty", board.part(1, 4, 3), -5);
        due.is("c stays", board.number(3), 9);
        due.is("no boards", board.boards(), 0);
        due.is("a is b, ahead of black", board.part(0, 0, 3), -3);
        due.is("a is c", board.part(0, 1, 0), -3);
        due.is("b is c", board.part(0, 2, 2), -3);
        due.is("no row c ahead of one row", board.part(0, 0, 8), -1);
        due.is("no row a", board.part(-1, 2, 2), -1);
        due.is("no row b", board.part(0, 8, 0), -1);
    }

    private static void root() {
        RodBoard board = with(1, 0, 0, 0, 0, 3000);
        due.is("steps", board.root(5, 0, 2), 3);
        due.are("a", course(board, 5), 3000, 3000, 500, 84);
        due.are("b", course(board, 0), 1, 0, 50, 54);
        due.are("emptying", parts(board, 0), 5, 0, 0, 0, -6, -6);
        due.are("note 1", parts(board, 1), 3, 5, 1, 5, 0, -6);
        due.are("note 2", parts(board, 2), 3, 5, 0, 4, 0, -6);
        due.is("rest", board.number(5), 84);

        board = with(13824);
        due.is("steps", board.root(0, 1, 3), 2);
        due.are("a", course(board, 0), 13824, 5824, 0);
        due.are("b", course(board, 1), 0, 20, 24);
        due.are("note 0", parts(board, 0), 4, 0, 1, 2, 1, -6);
        due.are("note 1", parts(board, 1), 4, 0, 0, 4, 1, -6);

        board = with(BEYOND - 1);
        due.is("the longest", board.root(0, 1, 2), 6);
        due.is("side", board.number(1), 999999);
        due.is("rest", board.number(0), 1999998);
        board = with(BEYOND - 1);
        due.is("the longest", board.root(0, 1, 3), 4);
        due.is("side", board.number(1), 9999);
        due.is("rest", board.number(0), 299970000);

        board = with(0, -7);
        due.is("of nothing", board.root(0, 1, 3), 1);
        due.is("nothing", board.number(1), 0);
        due.is("again", board.root(0, 1, 2), 0);
        board = with(10000);
        due.is("empty places are no steps", board.root(0, 1, 2), 1);
    }

    private static void rootOfLeastNumbers() {
        long[] twos = {0, 1, 1, 1, 2, 2, 2, 2, 2, 3};
        for (int a = 0; a <= 9; a++) {
            RodBoard board = with(a);
            due.is("steps, n 2, of " + a, board.root(0, 1, 2), a == 0 ? 0 : 1);
            due.is("side", board.number(1), twos[a]);
            due.is("left", board.number(0), a - twos[a] * twos[a]);
            board = with(a);
            due.is("steps, n 3, of " + a, board.root(0, 1, 3), a == 0 ? 0 : 1);
            due.is("side", board.number(1), a == 0 ? 0 : a < 8 ? 1 : 2);
        }
    }

    private static void rootJustBelowAPower() {
        RodBoard board = with(999999L * 999999);
        due.is("the greatest square", board.root(0, 1, 2), 6);
        due.are("first", parts(board, 0), 3, 0, 5, 9, 1, -6);
        due.is("side", board.number(1), 999999);
        due.is("nothing left", board.number(0), 0);
        board = with(999999L * 999999 - 1);
        board.root(0, 1, 2);
        due.is("one less", board.number(1), 999998);
        due.is("left", board.number(0), 2L * 999998);
        board = with(9999L * 9999 * 9999);
        due.is("the greatest cube", board.root(0, 1, 3), 4);
        due.are("first", parts(board, 0), 4, 0, 3, 9, 1, -6);
        due.is("side", board.number(1), 9999);
        due.is("nothing left", board.number(0), 0);
        board = with(9999L * 9999 * 9999 - 1);
        board.root(0, 1, 3);
        due.is("one less", board.number(1), 9998);
        board = with(10000000000L);
        due.is("digit 1 at the highest place", board.root(0, 1, 2), 1);
        due.are("note", parts(board, 0), 3, 0, 5, 1, 1, -6);
        board = with(9999999999L);
        due.is("just less", board.root(0, 1, 2), 5);
        due.is("side", board.number(1), 99999);
    }

    private static void rootEmptiesB() {
        for (int n = 2; n <= 3; n++) {
            RodBoard board = with(0, BEYOND - 1);
            due.is("of nothing", board.root(0, 1, n), 1);
            due.are("emptying alone", parts(board, 0), 5, 1, 0, 0, -6, -6);
            due.are("b", course(board, 1), BEYOND - 1, 0);
            board = with(1, -1);
            due.is("a black b", board.root(0, 1, n), 2);
            due.are("b", course(board, 1), -1, 0, 1);
            due.are("a", course(board, 0), 1, 1, 0);
            board = with(1, 0);
            due.is("an empty b is no step", board.root(0, 1, n), 1);
        }
    }

    private static void rootRefused() {
        RodBoard board = with(-4, 9, 5);
        due.is("a black", board.root(0, 2, 2), -5);
        due.is("one row", board.root(0, 0, 2), -3);
        due.is("n 1", board.root(1, 2, 1), -2);
        due.is("n 4 ahead of one row", board.root(0, 0, 4), -2);
        due.is("no row b ahead of n", board.root(0, 8, 4), -1);
        due.is("no row a", board.root(-1, 2, 2), -1);
        due.is("b stays", board.number(2), 5);
        due.is("no boards", board.boards(), 0);
    }

    private static void boards() {
        RodBoard board = with(1, 25, 5);
        due.is("no working yet", board.boards(), 0);
        due.is("steps", board.told(1), 0);
        board.add(0, 1);
        due.is("one more than steps", board.boards(), 3);
        due.is("steps", board.told(1), 2);
        board.add(0, 2);
        due.is("the latest", board.boards(), 2);
        board.lay(0, 9);
        board.times(0, 0, 0);
        due.is("not what was refused", board.boards(), 2);
    }

    /** TIMES of 7 digits by 6, and c emptied: 43 STEPS. */
    private static void boardsOfTheLongest() {
        RodBoard board = with(1111111, 111111, 8);
        due.is("steps", board.times(0, 1, 2), 43);
        due.is("boards", board.boards(), 44);
        due.is("steps kept", board.told(1), 43);
        due.is("first", board.board(0, 2), 8);
        due.is("last", board.board(43, 2), 123456654321L);
        due.is("behind it", board.board(44, 2), LOST - 1);
        due.are("last note", parts(board, 42), 1, 2, 0, 1, -6, -6);
        due.is("behind it", board.note(43, 0), -101);
        due.is("cells", board.copy(), 352);
        due.is("last step", board.right(42), 1);
        due.is("behind it", board.right(43), -1);
    }

    private static void boardsStayWhereRefused() {
        RodBoard board = with(25, 4, -3, BEYOND - 1);
        due.is("refused ahead of all", board.part(0, 2, 4), -5);
        due.is("no working yet", board.boards(), 0);
        board.add(0, 1);
        due.is("unknown", board.add(0, 8), -1);
        due.is("full", board.add(3, 1), -4);
        due.is("full", board.times(3, 1, 4), -4);
        due.is("state", board.times(1, 1, 4), -3);
        due.is("no", board.part(2, 1, 4), -5);
        due.is("outside", board.root(0, 4, 5), -2);
        due.is("no", board.root(2, 4, 3), -5);
        due.are("boards", course(board, 0), 25, 29);
        due.are("note", parts(board, 0), 0, 0, 0, 4, 1, -6);
        due.is("steps", board.told(1), 1);
        due.is("one that goes", board.root(0, 4, 2), 1);
        due.are("takes their place", course(board, 0), 29, 4);
    }

    private static void board() {
        RodBoard board = with(1, 25, 5);
        due.is("none yet", board.board(0, 0), LOST - 1);
        board.add(0, 1);
        board.lay(7, 8);
        board.lay(0, 3);
        due.are("as it was", course(board, 0), 1, 21, 26);
        due.are("as it was", course(board, 7), 0, 0, 0);
        due.is("no board 3", board.board(3, 0), LOST - 1);
        due.is("no board -1", board.board(-1, 0), LOST - 1);
        due.is("no row 8", board.board(0, 8), LOST - 1);
        due.is("no row -1", board.board(0, -1), LOST - 1);
        due.is("far off", board.board(Integer.MAX_VALUE, Integer.MAX_VALUE), LOST - 1);
        board.add(0, 6);
        due.is("a working of no steps", board.board(0, 7), 8);
        due.is("has one board", board.board(1, 7), LOST - 1);
    }

    private static void note() {
        RodBoard board = with(1, 25);
        due.is("none yet", board.note(0, 0), -101);
        board.add(0, 1);
        due.is("last step", board.note(1, 3), 5);
        due.is("no step 2", board.note(2, 0), -101);
        due.is("no step -1", board.note(-1, 0), -101);
        due.is("what 6", board.note(0, 6), -102);
        due.is("what -1", board.note(0, -1), -102);
        due.is("no step ahead of what", board.note(2, 6), -101);
    }

    /** a, b and c in rows that are neither each other's nor the first ones. */
    private static void noteOfEachKind() {
        RodBoard board = with(1, 1, 1, 6, 4, 2, 9, 1);
        board.add(3, 6);
        due.are("add", parts(board, 0), 0, 3, 0, 9, 6, -6);
        board.times(4, 6, 3);
        due.are("emptied", parts(board, 0), 5, 3, 0, 0, -6, -6);
        due.are("times", parts(board, 1), 1, 3, 0, 36, -6, -6);
        board.part(6, 4, 5);
        due.are("emptied", parts(board, 0), 5, 5, 0, 0, -6, -6);
        due.are("part", parts(board, 1), 2, 6, 0, 2, 4, 5);
        board.root(4, 7, 2);
        due.are("emptied", parts(board, 0), 5, 7, 0, 0, -6, -6);
        due.are("root, n 2", parts(board, 1), 3, 4, 0, 2, 7, -6);
        board.lay(4, 64);
        board.root(4, 6, 3);
        due.are("root, n 3", parts(board, 1), 4, 4, 0, 4, 6, -6);
    }
}
