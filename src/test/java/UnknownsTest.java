/** Promises 26 to 32: unknowns in columns, cleared one by one. */
public final class UnknownsTest {
    private static final long LOST = -1000000000000000L;
    private static final Due due = new Due("UnknownsTest");

    public static void main(String[] args) {
        unknowns();
        unknownsOfEachSize();
        set();
        setEachNumber();
        kind();
        kindOfNothing();
        kindOfMoreAndFewerColumns();
        turns();
        turnsAskedAgain();
        cleared();
        clearedExchange();
        clearedPartedByTheGreatest();
        clearedOfTheGreatest();
        answer();
        answerInLowestTerms();
        answerOfEachUnknown();
        greatest();
        free();
        freeWithoutColumns();
        due.end();
    }

    /** Each column: its numbers, and what they all come to. */
    private static RodBoard with(int[]... columns) {
        RodBoard board = new RodBoard();
        board.unknowns(columns[0].length - 1, columns.length);
        for (int column = 0; column < columns.length; column++) {
            for (int k = 0; k < columns[column].length; k++) board.set(column, k, columns[column][k]);
        }
        return board;
    }

    private static int[] column(int... numbers) {
        return numbers;
    }

    private static void clearedIs(RodBoard board, int[]... columns) {
        for (int column = 0; column < columns.length; column++) {
            for (int k = 0; k < columns[column].length; k++) {
                due.is("cleared " + column + ", " + k, board.cleared(column, k), columns[column][k]);
            }
        }
    }

    private static void answersAre(RodBoard board, int... upperAndLower) {
        for (int k = 0; 2 * k < upperAndLower.length; k++) {
            due.is("upper of " + k, board.answer(k, 0), upperAndLower[2 * k]);
            due.is("lower of " + k, board.answer(k, 1), upperAndLower[2 * k + 1]);
        }
    }

    private static void unknowns() {
        RodBoard board = new RodBoard();
        due.is("least", board.unknowns(1, 1), 1);
        due.is("most", board.unknowns(4, 5), 1);
        due.is("told n", board.told(3), 4);
        due.is("told m", board.told(4), 5);
        board.set(4, 4, 9);
        due.is("n 0", board.unknowns(0, 1), -2);
        due.is("n 5", board.unknowns(5, 1), -2);
        due.is("m 0", board.unknowns(1, 0), -2);
        due.is("m 6", board.unknowns(1, 6), -2);
        due.is("refused changed nothing", board.set(4, 4, 8), 9);
        due.is("anew", board.unknowns(4, 5), 1);
        for (int column = 0; column < 5; column++) {
            for (int k = 0; k <= 4; k++) due.is("was", board.set(column, k, 7), 0);
        }
        board.unknowns(4, 5);
        for (int column = 0; column < 5; column++) {
            for (int k = 0; k <= 4; k++) due.is("all 0", board.set(column, k, 0), 0);
        }
    }

    private static void unknownsOfEachSize() {
        RodBoard board = new RodBoard();
        for (int n = 1; n <= 4; n++) {
            for (int m = 1; m <= 5; m++) {
                due.is("n " + n + ", m " + m, board.unknowns(n, m), 1);
                due.is("told n", board.told(3), n);
                due.is("told m", board.told(4), m);
                due.is("the last number of the last column", board.set(m - 1, n, 9999), 0);
                due.is("no more numbers", board.set(m - 1, n + 1, 1), -100001);
                due.is("no more columns", board.set(m, 0, 1), -100001);
                due.is("no more answers", board.answer(n, 0), LOST - 1);
                due.is("no more unknowns", board.free(n), -1);
            }
        }
        due.is("back to one", board.unknowns(1, 1), 1);
        due.is("all 0", board.cleared(0, 0) + board.cleared(0, 1), 0);
    }

    private static void set() {
        RodBoard board = new RodBoard();
        board.unknowns(2, 3);
        due.is("was", board.set(2, 1, 50), 0);
        due.is("was", board.set(2, 1, -50), 50);
        due.is("was", board.set(2, 1, 0), -50);
        due.is("was", board.set(2, 2, 9999), 0);
        due.is("was", board.set(2, 2, -9999), 9999);
        due.is("above", board.set(2, 1, 51), -100002);
        due.is("below", board.set(2, 1, -51), -100002);
        due.is("above what all come to", board.set(2, 2, 10000), -100002);
        due.is("below what all come to", board.set(2, 2, -10000), -100002);
        due.is("no column 3 ahead of too much", board.set(3, 0, 51), -100001);
        due.is("no column -1", board.set(-1, 0, 1), -100001);
        due.is("no number 3", board.set(0, 3, 1), -100001);
        due.is("no number -1", board.set(0, -1, 1), -100001);
        due.is("refused changed nothing", board.set(2, 2, 1), -9999);
        due.is("other columns", board.set(1, 2, 1), 0);
        due.is("clearing leaves what is told", board.kind() + 10 * board.set(2, 2, 5), 10);
    }

    private static void setEachNumber() {
        RodBoard board = new RodBoard();
        board.unknowns(4, 5);
        for (int column = 0; column < 5; column++) {
            for (int k = 0; k <= 4; k++) due.is("first", board.set(column, k, 10 * column + k - 22), 0);
        }
        for (int column = 0; column < 5; column++) {
            for (int k = 0; k <= 4; k++) due.is("was", board.set(column, k, 0), 10 * column + k - 22);
        }
        for (int k = 0; k < 4; k++) {
            due.is("most of number " + k, board.set(0, k, 50), 0);
            due.is("more", board.set(0, k, 51), -100002);
            due.is("least", board.set(0, k, -50), 50);
            due.is("less", board.set(0, k, -51), -100002);
            due.is("stays", board.set(0, k, 0), -50);
        }
        due.is("number 4 is what all come to", board.set(0, 4, 51), 0);
        board.unknowns(3, 5);
        due.is("number 3 is, now", board.set(0, 3, -9999), 0);
        due.is("and number 4 is none", board.set(0, 4, 51), -100001);
    }

    private static void kind() {
        due.is("one", with(column(2, 6)).kind(), 1);
        due.is("many", with(column(0, 0)).kind(), 2);
        due.is("none", with(column(0, 6)).kind(), 0);
        due.is("one too few", with(column(1, 1, 5)).kind(), 2);
        due.is("the same twice", with(column(1, 1, 5), column(2, 2, 10)).kind(), 2);
        due.is("not the same", with(column(1, 1, 5), column(2, 2, 11)).kind(), 0);
        due.is("no answer, and one is free", with(column(0, 1, 5), column(0, 1, 4)).kind(), 0);
        due.is("one more that agrees", with(column(1, 1, 5), column(1, -1, 1), column(3, 1, 11)).kind(), 1);
        due.is("one more that does not", with(column(1, 1, 5), column(1, -1, 1), column(3, 1, 12)).kind(), 0);
    }

    private static void kindOfNothing() {
        for (int n = 1; n <= 4; n++) {
            for (int m = 1; m <= 5; m++) {
                RodBoard board = new RodBoard();
                board.unknowns(n, m);
                due.is("all 0: many", board.kind(), 2);
                due.is("no turns", board.turns(), 0);
                board.set(m - 1, n, -1);
                due.is("nothing comes to -1: none", board.kind(), 0);
                for (int k = 0; k < n; k++) due.is("free", board.free(k), 1);
            }
        }
    }

    private static void kindOfMoreAndFewerColumns() {
        int[][] five = {
            column(1, 0, 0, 0, 3), column(1, 1, 0, 0, 5), column(1, 1, 1, 0, 8), column(1, 1, 1, 1, 12),
            column(4, 3, 2, 1, 28)
        };
        for (int m = 1; m <= 5; m++) {
            due.is(m + " columns of 4 unknowns", with(java.util.Arrays.copyOf(five, m)).kind(), m < 4 ? 2 : 1);
        }
        RodBoard board = with(five);
        board.set(4, 4, 29);
        due.is("the fifth does not agree", board.kind(), 0);
        due.is("no answer then", board.answer(0, 0), LOST - 3);
        board = with(column(1, 3), column(2, 6), column(-3, -9), column(0, 0), column(50, 150));
        due.is("one unknown in five that agree", board.kind(), 1);
        answersAre(board, 3, 1);
        board.set(3, 1, 1);
        due.is("nothing comes to 1", board.kind(), 0);
    }

    private static void turns() {
        due.is("none", with(column(2, 6)).turns(), 0);
        due.is("one", with(column(1, 1, 5), column(2, 2, 10)).turns(), 1);
        due.is("none where the number is 0", with(column(1, 1, 5), column(0, 2, 10)).turns(), 0);
        due.is("exchange is no turn", with(column(0, 1, 5), column(2, 2, 10)).turns(), 0);
        due.is("most", with(column(1, 2, 3, 4, 5), column(2, 3, 5, 7, 1), column(3, 5, 11, 2, 2),
            column(5, 7, 13, 17, 3), column(7, 1, 2, 9, 4)).turns(), 4 + 3 + 2 + 1);
    }

    private static void turnsAskedAgain() {
        RodBoard board = with(column(1, 1, 5), column(2, 2, 10));
        due.is("one", board.turns(), 1);
        board.kind();
        board.answer(0, 0);
        board.cleared(1, 1);
        due.is("still one", board.turns(), 1);
        board.set(1, 0, 0);
        due.is("none", board.turns(), 0);
        board.set(1, 0, 1);
        due.is("one again", board.turns(), 1);
        board.unknowns(2, 2);
        due.is("none of nothing", board.turns(), 0);
    }

    private static void cleared() {
        RodBoard board = with(column(0, 0, 4, 8), column(0, -4, 2, 6), column(0, 6, 3, 0));
        // unknown 0 is free; column 1 goes first; column 2 becomes 0, 0, -24, -36 by 12, then 0, 0, 0, 4 by 4
        clearedIs(board, column(0, -4, 2, 6), column(0, 0, 4, 8), column(0, 0, 0, 1));
        board = with(column(2, 4, 6), column(-3, 5, 2));
        // (-3, 5, 2) by 2 less (2, 4, 6) by -3: 0, 22, 22; parted by 22
        clearedIs(board, column(2, 4, 6), column(0, 1, 1));
        board = with(column(-2, 4, 6), column(3, 5, 2));
        // by -2 less by 3: 0, -10 - 12, -4 - 18: the sign stays
        clearedIs(board, column(-2, 4, 6), column(0, -1, -1));
        board = with(column(1, 1, 5), column(2, 2, 10), column(3, 3, 16));
        clearedIs(board, column(1, 1, 5), column(0, 0, 0), column(0, 0, 1));
        due.is("no column", board.cleared(3, 0), LOST - 1);
        due.is("no column", board.cleared(-1, 0), LOST - 1);
        due.is("no number", board.cleared(0, 3), LOST - 1);
        due.is("no number", board.cleared(0, -1), LOST - 1);
    }

    /** The first column with a number and the one in its place change sides; all others stay. */
    private static void clearedExchange() {
        RodBoard board = with(column(0, 0, 1, 4), column(0, 1, 0, 5), column(1, 0, 0, 6));
        clearedIs(board, column(1, 0, 0, 6), column(0, 1, 0, 5), column(0, 0, 1, 4));
        due.is("no turns", board.turns(), 0);
        board = with(column(0, 1, 0, 4), column(0, 0, 1, 5), column(1, 0, 0, 6), column(2, 0, 0, 12));
        clearedIs(board, column(1, 0, 0, 6), column(0, 1, 0, 4), column(0, 0, 1, 5), column(0, 0, 0, 0));
        due.is("one turn", board.turns(), 1);
        due.is("what is told stays in its column", board.set(0, 3, 0), 4);
    }

    private static void clearedPartedByTheGreatest() {
        // the first column is left as it is told, the second is 0, 12, 30 by 6
        RodBoard board = with(column(2, 6, 10), column(3, 15, 30));
        clearedIs(board, column(2, 6, 10), column(0, 2, 5));
        // 0, 0, 7 by 7
        board = with(column(1, 3, 2), column(1, 3, 9));
        clearedIs(board, column(1, 3, 2), column(0, 0, 1));
        // 0, 0, -7 by 7
        board = with(column(1, 3, 9), column(1, 3, 2));
        clearedIs(board, column(1, 3, 9), column(0, 0, -1));
        // all 0: parted by nothing
        board = with(column(3, 3, 9), column(2, 2, 6));
        clearedIs(board, column(3, 3, 9), column(0, 0, 0));
        due.is("a turn all the same", board.turns(), 1);
        // a column that was not turned is not parted
        board = with(column(2, 4, 6), column(0, 10, 20));
        clearedIs(board, column(2, 4, 6), column(0, 10, 20));
        due.is("no turn", board.turns(), 0);
    }

    private static void clearedOfTheGreatest() {
        RodBoard board = with(column(50, -9999), column(50, 9999));
        clearedIs(board, column(50, -9999), column(0, 1));
        board = with(column(50, 49, 9999), column(-49, 50, -9998));
        // 0, 50 * 50 + 49 * 49, 49 * 9999 - 50 * 9998
        clearedIs(board, column(50, 49, 9999), column(0, 4901, -9949));
    }

    private static void answer() {
        answersAre(with(column(4, 6)), 3, 2);
        answersAre(with(column(-4, 6)), -3, 2);
        answersAre(with(column(-4, -6)), 3, 2);
        answersAre(with(column(-4, 0)), 0, 1);
        answersAre(with(column(2, 3, 7), column(5, -1, 9)), 2, 1, 1, 1);
        answersAre(with(column(2, 0, 1), column(0, 3, 1)), 1, 2, 1, 3);
        answersAre(with(column(0, 3, 1), column(2, 0, 1)), 1, 2, 1, 3);
        RodBoard board = with(column(1, 1, 5), column(1, -1, 1));
        due.is("part 2", board.answer(0, 2), LOST - 2);
        due.is("part -1", board.answer(0, -1), LOST - 2);
        due.is("no unknown 2, ahead of part", board.answer(2, 2), LOST - 1);
        due.is("no unknown -1", board.answer(-1, 0), LOST - 1);
        board.set(1, 1, 1);
        due.is("no answer", board.answer(0, 0), LOST - 3);
        due.is("part ahead of it", board.answer(0, 2), LOST - 2);
        board.set(1, 2, 5);
        due.is("many", board.answer(0, 0), LOST - 3);
    }

    private static void answerInLowestTerms() {
        answersAre(with(column(50, -9999)), -9999, 50);
        answersAre(with(column(-50, -9999)), 9999, 50);
        answersAre(with(column(50, 9950)), 199, 1);
        answersAre(with(column(-1, 9999)), -9999, 1);
        answersAre(with(column(1, -9999)), -9999, 1);
        answersAre(with(column(6, 4)), 2, 3);
        answersAre(with(column(50, 0)), 0, 1);
        answersAre(with(column(0, 7, 0), column(-3, 5, 0)), 0, 1, 0, 1);
    }

    /** Each unknown has a lower number of its own. */
    private static void answerOfEachUnknown() {
        RodBoard board = with(column(2, 0, 0, 0, 1), column(0, 3, 0, 0, -1), column(0, 0, 0, -5, 1), column(0, 0, 7, 0, 2));
        answersAre(board, 1, 2, -1, 3, 2, 7, -1, 5);
        due.is("no unknown 4", board.answer(4, 0), LOST - 1);
        due.is("no unknown -1", board.answer(-1, 1), LOST - 1);
        board = with(column(1, 1, 0, 0, 1), column(0, 2, 1, 0, 1), column(0, 0, 3, 1, 1), column(1, 0, 0, 4, 1));
        answersAre(board, 15, 23, 8, 23, 7, 23, 2, 23);
    }

    /** The greatest determinant that numbers to 50 make, and one more column. */
    private static void greatest() {
        RodBoard board = with(
            column(50, 50, 50, 50, 9999), column(50, -50, 50, -50, -9999), column(50, 50, -50, -50, 9998),
            column(50, -50, -50, 50, 9997), column(-50, -50, -50, -50, -9999));
        due.is("kind", board.kind(), 1);
        answersAre(board, 3999, 40, 19999, 200, -3999, 40, 19997, 200);
    }

    private static void free() {
        RodBoard board = with(column(0, 2, 1, 0, 3), column(0, 4, 2, 5, 6));
        due.is("no number at all", board.free(0), 1);
        due.is("cleared", board.free(1), 0);
        due.is("gone with the one ahead", board.free(2), 1);
        due.is("cleared", board.free(3), 0);
        due.is("no unknown", board.free(4), -1);
        due.is("no unknown", board.free(-1), -1);
        board = with(column(1, 1, 1, 9));
        due.is("no column left", 10 * board.free(1) + board.free(2), 11);
    }

    private static void freeWithoutColumns() {
        RodBoard board = with(column(0, 0, 3, 2, 1));
        due.are("the first with a number is not", frees(board), 1, 1, 0, 1);
        board = with(column(1, 2, 3, 4, 5), column(2, 4, 6, 8, 10));
        due.are("the second says the same", frees(board), 0, 1, 1, 1);
        board = with(column(1, 2, 3, 4, 5), column(2, 4, 6, 9, 10));
        due.are("but for the last", frees(board), 0, 1, 1, 0);
        board = with(column(7, 0), column(0, 0));
        due.are("one answer: none is", frees(board), 0);
    }

    private static long[] frees(RodBoard board) {
        long[] frees = new long[board.told(3)];
        for (int k = 0; k < frees.length; k++) frees[k] = board.free(k);
        return frees;
    }
}
