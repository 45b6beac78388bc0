/** Promises 33 to 37: counts, joined to one number, and seeking one. */
public final class CountsTest {
    private static final long LOST = -1000000000000000L;
    private static final Due due = new Due("CountsTest");

    public static void main(String[] args) {
        count();
        drop();
        joined();
        joinedWithClash();
        joinedOutside();
        clash();
        seek();
        seekAll();
        due.end();
    }

    /** by, left, by, left .. */
    private static RodBoard with(int... bysAndLefts) {
        RodBoard board = new RodBoard();
        for (int i = 0; i < bysAndLefts.length; i += 2) board.count(bysAndLefts[i], bysAndLefts[i + 1]);
        return board;
    }

    private static void count() {
        RodBoard board = new RodBoard();
        due.is("by 1", board.count(1, 0), -2);
        due.is("by 1001", board.count(1001, 0), -2);
        due.is("left -1", board.count(5, -1), -2);
        due.is("left as many", board.count(5, 5), -2);
        due.is("by far less", board.count(Integer.MIN_VALUE, 0), -2);
        due.is("told", board.told(5), 0);
        due.is("least", board.count(2, 0), 1);
        due.is("most", board.count(1000, 998), 2);
        for (int i = 3; i <= 6; i++) due.is("count " + i, board.count(3, 2), i);
        due.is("seventh", board.count(3, 2), -4);
        due.is("outside ahead of full", board.count(3, 3), -2);
        due.is("told", board.told(5), 6);
    }

    private static void drop() {
        RodBoard board = with(3, 2, 5, 3);
        due.is("two", board.drop(), 2);
        due.is("none", board.drop(), 0);
        due.is("told", board.told(5), 0);
        due.is("anew", board.count(7, 1), 1);
        due.is("joined anew", board.joined(0), 1);
    }

    private static void joined() {
        RodBoard board = new RodBoard();
        due.is("without counts", board.joined(0), 0);
        due.is("without counts", board.joined(1), 1);
        board = with(3, 2, 5, 3, 7, 2);
        due.is("old counts", board.joined(0), 23);
        due.is("old counts", board.joined(1), 105);
        board = with(4, 2, 6, 4);
        due.is("with 2 in both", board.joined(0), 10);
        due.is("with 2 in both", board.joined(1), 12);
        board = with(4, 0, 6, 0);
        due.is("nothing left", board.joined(0), 0);
        board = with(8, 7, 4, 3);
        due.is("one goes into the other", board.joined(0), 7);
        due.is("one goes into the other", board.joined(1), 8);
        board = with(1000, 999, 999, 998, 997, 996, 991, 990, 983, 982, 977, 976);
        due.is("the greatest", board.joined(1), 1000L * 999 * 997 * 991 * 983 * 977);
        due.is("one less", board.joined(0), 1000L * 999 * 997 * 991 * 983 * 977 - 1);
    }

    /** Counts that can't be together have neither number. */
    private static void joinedWithClash() {
        noneJoined("with 2 in both", with(4, 1, 6, 2));
        noneJoined("the same by", with(3, 0, 3, 1));
        noneJoined("one goes into the other", with(8, 7, 4, 2));
        noneJoined("with one between", with(4, 1, 9, 0, 6, 5, 8, 6));
        noneJoined("the last of six", with(1000, 999, 999, 998, 997, 996, 991, 990, 983, 982, 2, 0));
        RodBoard board = with(3, 0, 5, 0);
        due.is("ahead of the clash", board.joined(1), 15);
        board.count(5, 1);
        noneJoined("with the clash", board);
        due.is("the outside one is no count", board.count(5, 5), -2);
        noneJoined("still with the clash", board);
        board.drop();
        due.is("without counts again", board.joined(0), 0);
        due.is("without counts again", board.joined(1), 1);
    }

    private static void noneJoined(String counts, RodBoard board) {
        due.is(counts + ", least", board.joined(0), LOST - 5);
        due.is(counts + ", what all go into", board.joined(1), LOST - 5);
    }

    /** OUTSIDE is told ahead of NO. */
    private static void joinedOutside() {
        for (RodBoard board : new RodBoard[] {new RodBoard(), with(3, 2, 5, 3), with(4, 1, 6, 2)}) {
            due.is("what 2", board.joined(2), LOST - 2);
            due.is("what -1", board.joined(-1), LOST - 2);
            due.is("what far off", board.joined(Integer.MIN_VALUE), LOST - 2);
        }
    }

    private static void clash() {
        due.is("without counts", with().clash(), -6);
        due.is("one", with(4, 1).clash(), -6);
        due.is("together", with(4, 1, 6, 3).clash(), -6);
        due.is("second", with(4, 1, 6, 2).clash(), 1);
        due.is("with the first", with(4, 1, 9, 0, 6, 5, 8, 6).clash(), 2);
        due.is("with one between", with(5, 1, 9, 1, 7, 1, 6, 2, 4, 1).clash(), 3);
        due.is("the same by", with(5, 1, 7, 1, 5, 2).clash(), 2);
        due.is("the same count", with(5, 1, 5, 1).clash(), -6);
    }

    private static void seek() {
        RodBoard board = new RodBoard();
        due.is("turns", board.seek(65, 83, 0), 7);
        due.is("the one", board.seek(65, 83, 1), 23);
        due.is("below 0 at first", board.seek(3, 10, 1), 7);
        due.is("x", board.seek(65, 83, 2), 1);
        due.is("there is none", board.seek(6, 9, 1), -6);
        due.is("x", board.seek(6, 9, 2), 3);
        due.is("turns all the same", board.seek(6, 9, 0), 2);
        due.is("least", board.seek(1, 2, 1), 1);
        due.is("most", board.seek(999, 1000, 1), 999);
        due.is("a 0", board.seek(0, 9, 1), -2);
        due.is("a m", board.seek(9, 9, 1), -2);
        due.is("m 1", board.seek(1, 1, 1), -2);
        due.is("m 1001", board.seek(1, 1001, 1), -2);
        due.is("what 3", board.seek(1, 2, 3), -2);
        due.is("what -1", board.seek(1, 2, -1), -2);
        due.is("far off", board.seek(Integer.MIN_VALUE, Integer.MIN_VALUE, 0), -2);
    }

    private static void seekAll() {
        RodBoard board = new RodBoard();
        int wrong = 0;
        for (int m = 2; m <= 200; m++) {
            for (int a = 1; a < m; a++) {
                int one = board.seek(a, m, 1);
                if (board.seek(a, m, 2) == 1 ? one < 1 || one >= m || a * one % m != 1 : one != -6) wrong++;
            }
        }
        due.is("wrong ones", wrong, 0);
    }
}
