/** Promises 11 to 17: adding, times, parting and roots, step by step, each kept as a board. */
public final class WorkingsTest {
    private static final long LOST = -1000000000000000L;
    private static final long BEYOND = 1000000000000L;
    private static final Due due = new Due("WorkingsTest");

    public static void main(String[] args) {
        add();
        addRefused();
        times();
        timesRefused();
        part();
        partRefused();
        root();
        rootRefused();
        boards();
        board();
        note();
        due.end();
    }

    private static RodBoard with(long... rows) {
        RodBoard board = new RodBoard();
        for (int row = 0; row < rows.length; row++) board.lay(row, rows[row]);
        return board;
    }

    private static long[] parts(RodBoard board, int step) {
        long[] parts = new long[6];
        for (int what = 0; what < 6; what++) parts[what] = board.note(step, what);
        return parts;
    }

    /** What a row held on all boards. */
    private static long[] course(RodBoard board, int row) {
        long[] held = new long[board.boards()];
        for (int i = 0; i < held.length; i++) held[i] = board.board(i, row);
        return held;
    }

    private static void add() {
        RodBoard board = with(358, 7049);
        due.is("steps", board.add(0, 1), 3);
        due.are("a", course(board, 0), 358, 7358, 7398, 7407);
        due.are("b", course(board, 1), 7049, 7049, 7049, 7049);
        due.are("note 0", parts(board, 0), 0, 0, 3, 7, 1, -6);
        due.are("note 1", parts(board, 1), 0, 0, 1, 4, 1, -6);
        due.are("note 2", parts(board, 2), 0, 0, 0, 9, 1, -6);
        due.is("sum", board.number(0), 7407);

        board = with(0, 0, 5, 0, 0, -205);
        due.is("a black b takes away", board.add(2, 5), 2);
        due.are("a", course(board, 2), 5, -195, -200);
        due.are("note", parts(board, 0), 0, 2, 2, -2, 5, -6);

        board = with(123);
        due.is("a row to itself", board.add(0, 0), 3);
        due.are("digits are those of the beginning", course(board, 0), 123, 223, 243, 246);

        board = with(77);
        due.is("an empty row", board.add(0, 3), 0);
        due.is("boards", board.boards(), 1);

        board = with(BEYOND - 2, 1);
        due.is("just below BEYOND", board.add(0, 1), 1);
        due.is("sum", board.number(0), BEYOND - 1);
        board = with(1 - BEYOND, BEYOND - 1);
        due.is("from the least by the most", board.add(0, 1), 12);
        due.is("sum", board.number(0), 0);
    }

    private static void addRefused() {
        RodBoard board = with(BEYOND - 1, 1, 20, 3);
        board.add(2, 3);
        board.copy();
        due.is("to BEYOND", board.add(0, 1), -4);
        due.is("no row a", board.add(8, 1), -1);
        due.is("no row b", board.add(0, -1), -1);
        due.is("a stays", board.number(0), BEYOND - 1);
        due.are("the boards stay", course(board, 2), 20, 23);
        due.is("and the copy", board.told(2), 1);
        board = with(1 - BEYOND, -1);
        due.is("to -BEYOND", board.add(0, 1), -4);
        board = with(BEYOND / 2);
        due.is("twice to BEYOND", board.add(0, 0), -4);
    }

    private static void times() {
        RodBoard board = with(12, 304);
        due.is("steps", board.times(0, 1, 2), 4);
        due.are("c", course(board, 2), 0, 3000, 3040, 3640, 3648);
        due.are("note 0", parts(board, 0), 1, 2, 3, 3, -6, -6);
        due.are("note 1", parts(board, 1), 1, 2, 1, 4, -6, -6);
        due.are("note 2", parts(board, 2), 1, 2, 2, 6, -6, -6);
        due.are("note 3", parts(board, 3), 1, 2, 0, 8, -6, -6);
        due.is("a stays", board.number(0), 12);

        board = with(-9, 9, 5);
        due.is("c is emptied first", board.times(0, 1, 2), 2);
        due.are("c", course(board, 2), 5, 0, -81);
        due.are("emptying", parts(board, 0), 5, 2, 0, 0, -6, -6);
        due.are("a black", parts(board, 1), 1, 2, 0, -81, -6, -6);
        board = with(-9, -9);
        board.times(0, 1, 2);
        due.is("both black", board.number(2), 81);
        due.is("b black", with(9, -9).times(0, 1, 2), 1);

        board = with(0, 34, -5);
        due.is("nothing times b", board.times(0, 1, 2), 1);
        due.is("c is emptied", board.number(2), 0);
        due.is("nothing at all", board.times(0, 1, 2), 0);
        due.is("a times nothing", board.times(1, 0, 2), 0);

        board = with(1111111, 111111, 8);
        due.is("the longest", board.times(0, 1, 2), 43);
        due.is("c", board.number(2), 123456654321L);
        board = with(999999, -1000001);
        due.is("just below BEYOND", board.times(0, 1, 2), 12);
        due.is("c", board.number(2), 1 - BEYOND);
    }

    private static void timesRefused() {
        RodBoard board = with(1000000, 1000000, 7);
        due.is("to BEYOND", board.times(0, 1, 2), -4);
        due.is("c is not emptied", board.number(2), 7);
        due.is("no boards", board.boards(), 0);
        board.lay(1, -1000000);
        due.is("to -BEYOND", board.times(0, 1, 2), -4);
        board = with(BEYOND - 1, 1 - BEYOND, 7);
        due.is("far beyond", board.times(0, 1, 2), -4);
        due.is("a is b", board.times(1, 1, 2), -3);
        due.is("a is c", board.times(1, 0, 1), -3);
        due.is("b is c", board.times(1, 0, 0), -3);
        due.is("no row c ahead of one row", board.times(1, 1, 8), -1);
        due.is("no row a", board.times(-1, 1, 1), -1);
        due.is("no row b", board.times(0, 8, 0), -1);
    }

    private static void part() {
        RodBoard board = with(0, 7049, 32, 6);
        due.is("steps", board.part(1, 2, 3), 3);
        due.are("a", course(board, 1), 7049, 7049, 649, 9);
        due.are("b", course(board, 2), 32, 32, 32, 32);
        due.are("c", course(board, 3), 6, 0, 200, 220);
        due.are("emptying", parts(board, 0), 5, 3, 0, 0, -6, -6);
        due.are("note 1", parts(board, 1), 2, 1, 2, 2, 2, 3);
        due.are("note 2", parts(board, 2), 2, 1, 1, 2, 2, 3);
        due.is("rest", board.number(1), 9);
        due.is("quotient", board.number(3), 220);

        board = with(BEYOND - 1, 1);
        due.is("all places", board.part(0, 1, 2), 12);
        due.are("from the highest", parts(board, 0), 2, 0, 11, 9, 1, 2);
        due.is("c", board.number(2), BEYOND - 1);
        board = with(BEYOND - 1, BEYOND - 1);
        due.is("by itself", board.part(0, 1, 2), 1);
        due.is("one", board.number(2), 1);
        due.is("nothing left", board.number(0), 0);
        due.is("an empty a", board.part(0, 1, 3), 0);
        board = with(5, 6, -4);
        due.is("a less than b", board.part(0, 1, 2), 1);
        due.is("c is emptied all the same", board.number(2), 0);
    }

    private static void partRefused() {
        RodBoard board = with(-1, 1, -3, 9);
        due.is("a black", board.part(0, 1, 3), -5);
        due.is("b black", board.part(1, 2, 3), -5);
        due.is("b empty", board.part(1, 4, 3), -5);
        due.is("c stays", board.number(3), 9);
        due.is("no boards", board.boards(), 0);
        due.is("a is b, ahead of black", board.part(0, 0, 3), -3);
        due.is("a is c", board.part(0, 1, 0), -3);
        due.is("b is c", board.part(0, 2, 2), -3);
        due.is("no row c ahead of one row", board.part(0, 0, 8), -1);
        due.is("no row a", board.part(-1, 2, 2), -1);
        due.is("no row b", board.part(0, 8, 0), -1);
    }

    private static void root() {
        RodBoard board = with(1, 0, 0, 0, 0, 3000);
        due.is("steps", board.root(5, 0, 2), 3);
        due.are("a", course(board, 5), 3000, 3000, 500, 84);
        due.are("b", course(board, 0), 1, 0, 50, 54);
        due.are("emptying", parts(board, 0), 5, 0, 0, 0, -6, -6);
        due.are("note 1", parts(board, 1), 3, 5, 1, 5, 0, -6);
        due.are("note 2", parts(board, 2), 3, 5, 0, 4, 0, -6);
        due.is("rest", board.number(5), 84);

        board = with(13824);
        due.is("steps", board.root(0, 1, 3), 2);
        due.are("a", course(board, 0), 13824, 5824, 0);
        due.are("b", course(board, 1), 0, 20, 24);
        due.are("note 0", parts(board, 0), 4, 0, 1, 2, 1, -6);
        due.are("note 1", parts(board, 1), 4, 0, 0, 4, 1, -6);

        board = with(BEYOND - 1);
        due.is("the longest", board.root(0, 1, 2), 6);
        due.is("side", board.number(1), 999999);
        due.is("rest", board.number(0), 1999998);
        board = with(BEYOND - 1);
        due.is("the longest", board.root(0, 1, 3), 4);
        due.is("side", board.number(1), 9999);
        due.is("rest", board.number(0), 299970000);

        board = with(0, -7);
        due.is("of nothing", board.root(0, 1, 3), 1);
        due.is("nothing", board.number(1), 0);
        due.is("again", board.root(0, 1, 2), 0);
        board = with(10000);
        due.is("empty places are no steps", board.root(0, 1, 2), 1);
    }

    private static void rootRefused() {
        RodBoard board = with(-4, 9, 5);
        due.is("a black", board.root(0, 2, 2), -5);
        due.is("one row", board.root(0, 0, 2), -3);
        due.is("n 1", board.root(1, 2, 1), -2);
        due.is("n 4 ahead of one row", board.root(0, 0, 4), -2);
        due.is("no row b ahead of n", board.root(0, 8, 4), -1);
        due.is("no row a", board.root(-1, 2, 2), -1);
        due.is("b stays", board.number(2), 5);
        due.is("no boards", board.boards(), 0);
    }

    private static void boards() {
        RodBoard board = with(1, 25, 5);
        due.is("no working yet", board.boards(), 0);
        due.is("steps", board.told(1), 0);
        board.add(0, 1);
        due.is("one more than steps", board.boards(), 3);
        due.is("steps", board.told(1), 2);
        board.add(0, 2);
        due.is("the latest", board.boards(), 2);
        board.lay(0, 9);
        board.times(0, 0, 0);
        due.is("not what was refused", board.boards(), 2);
    }

    private static void board() {
        RodBoard board = with(1, 25, 5);
        due.is("none yet", board.board(0, 0), LOST - 1);
        board.add(0, 1);
        board.lay(7, 8);
        board.lay(0, 3);
        due.are("as it was", course(board, 0), 1, 21, 26);
        due.are("as it was", course(board, 7), 0, 0, 0);
        due.is("no board 3", board.board(3, 0), LOST - 1);
        due.is("no board -1", board.board(-1, 0), LOST - 1);
        due.is("no row 8", board.board(0, 8), LOST - 1);
        due.is("no row -1", board.board(0, -1), LOST - 1);
        due.is("far off", board.board(Integer.MAX_VALUE, Integer.MAX_VALUE), LOST - 1);
        board.add(0, 6);
        due.is("a working of no steps", board.board(0, 7), 8);
        due.is("has one board", board.board(1, 7), LOST - 1);
    }

    private static void note() {
        RodBoard board = with(1, 25);
        due.is("none yet", board.note(0, 0), -101);
        board.add(0, 1);
        due.is("last step", board.note(1, 3), 5);
        due.is("no step 2", board.note(2, 0), -101);
        due.is("no step -1", board.note(-1, 0), -101);
        due.is("what 6", board.note(0, 6), -102);
        due.is("what -1", board.note(0, -1), -102);
        due.is("no step ahead of what", board.note(2, 6), -101);
    }
}
