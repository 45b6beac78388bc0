/** Promises 33 to 37: counts, joined to one number, and seeking one. */
public final class CountsTest {
    private static final long LOST = -1000000000000000L;
    private static final Due due = new Due("CountsTest");

    public static void main(String[] args) {
        count();
        countEdges();
        drop();
        dropWhenFull();
        joined();
        joinedGoesTheWholeWay();
        joinedOfOne();
        joinedWithClash();
        joinedOutside();
        clash();
        clashOfTheLast();
        seek();
        seekLongest();
        seekAtTheEdges();
        seekAll();
        due.end();
    }

    /** by, left, by, left .. */
    private static RodBoard with(int... bysAndLefts) {
        RodBoard board = new RodBoard();
        for (int i = 0; i < bysAndLefts.length; i += 2) board.count(bysAndLefts[i], bysAndLefts[i + 1]);
        return board;
    }

    private static void count() {
        RodBoard board = new RodBoard();
        due.is("by 1", board.count(1, 0), -2);
        due.is("by 1001", board.count(1001, 0), -2);
        due.is("left -1", board.count(5, -1), -2);
        due.is("left as many", board.count(5, 5), -2);
        due.is("by far less", board.count(Integer.MIN_VALUE, 0), -2);
        due.is("told", board.told(5), 0);
        due.is("least", board.count(2, 0), 1);
        due.is("most", board.count(1000, 998), 2);
        for (int i = 3; i <= 6; i++) due.is("count " + i, board.count(3, 2), i);
        due.is("seventh", board.count(3, 2), -4);
        due.is("outside ahead of full", board.count(3, 3), -2);
        due.is("told", board.told(5), 6);
    }

    private static void countEdges() {
        RodBoard board = new RodBoard();
        due.is("by 2, left 0", board.count(2, 0), 1);
        due.is("by 2, left 1", board.count(2, 1), 2);
        due.is("by 2, left 2", board.count(2, 2), -2);
        due.is("by 1000, left 999", board.count(1000, 999), 3);
        due.is("by 1000, left 1000", board.count(1000, 1000), -2);
        due.is("by 1000, left 0", board.count(1000, 0), 4);
        due.is("neither", board.count(1, 1), -2);
        due.is("told", board.told(5), 4);
    }

    private static void drop() {
        RodBoard board = with(3, 2, 5, 3);
        due.is("two", board.drop(), 2);
        due.is("none", board.drop(), 0);
        due.is("told", board.told(5), 0);
        due.is("anew", board.count(7, 1), 1);
        due.is("joined anew", board.joined(0), 1);
    }

    private static void dropWhenFull() {
        RodBoard board = with(2, 1, 3, 1, 5, 1, 7, 1, 11, 1, 13, 0);
        due.is("a seventh", board.count(17, 1), -4);
        due.is("without it", board.joined(1), 30030);
        due.is("six", board.drop(), 6);
        due.is("told", board.told(5), 0);
        due.is("no clash", board.clash(), -6);
        due.is("anew", board.count(17, 1), 1);
        due.is("joined anew", board.joined(1), 17);
    }

    private static void joined() {
        RodBoard board = new RodBoard();
        due.is("without counts", board.joined(0), 0);
        due.is("without counts", board.joined(1), 1);
        board = with(3, 2, 5, 3, 7, 2);
        due.is("old counts", board.joined(0), 23);
        due.is("old counts", board.joined(1), 105);
        board = with(4, 2, 6, 4);
        due.is("with 2 in both", board.joined(0), 10);
        due.is("with 2 in both", board.joined(1), 12);
        board = with(4, 0, 6, 0);
        due.is("nothing left", board.joined(0), 0);
        board = with(8, 7, 4, 3);
        due.is("one goes into the other", board.joined(0), 7);
        due.is("one goes into the other", board.joined(1), 8);
        board = with(1000, 999, 999, 998, 997, 996, 991, 990, 983, 982, 977, 976);
        due.is("the greatest", board.joined(1), 1000L * 999 * 997 * 991 * 983 * 977);
        due.is("one less", board.joined(0), 1000L * 999 * 997 * 991 * 983 * 977 - 1);
    }

    /** The least number is found only after as many goes as there may be. */
    private static void joinedGoesTheWholeWay() {
        RodBoard board = with(999, 0, 1000, 1);
        due.is("999 goes", board.joined(0), 999L * 999);
        due.is("what all go into", board.joined(1), 999000);
        board = with(999, 998, 1000, 0);
        due.is("to the last", board.joined(0), 998000);
        board = with(1000, 0, 999, 998);
        due.is("the other way", board.joined(0), 998000);
        board = with(1000, 0, 999, 0, 997, 0, 991, 0, 983, 0, 977, 976);
        due.is("six", board.joined(0) % 977, 976);
        due.is("six", board.joined(0) % (1000L * 999 * 997 * 991 * 983), 0);
    }

    private static void joinedOfOne() {
        due.is("nothing left", with(2, 0).joined(0), 0);
        due.is("one left", with(2, 1).joined(0), 1);
        due.is("all go into", with(2, 1).joined(1), 2);
        due.is("the most", with(1000, 999).joined(0), 999);
        due.is("all go into", with(1000, 999).joined(1), 1000);
        due.is("the same six times", with(6, 5, 6, 5, 6, 5, 6, 5, 6, 5, 6, 5).joined(0), 5);
        due.is("all go into", with(6, 5, 6, 5, 6, 5, 6, 5, 6, 5, 6, 5).joined(1), 6);
    }

    /** Counts that can't be together have neither number. */
    private static void joinedWithClash() {
        noneJoined("with 2 in both", with(4, 1, 6, 2));
        noneJoined("the same by", with(3, 0, 3, 1));
        noneJoined("one goes into the other", with(8, 7, 4, 2));
        noneJoined("with one between", with(4, 1, 9, 0, 6, 5, 8, 6));
        noneJoined("the last of six", with(1000, 999, 999, 998, 997, 996, 991, 990, 983, 982, 2, 0));
        RodBoard board = with(3, 0, 5, 0);
        due.is("ahead of the clash", board.joined(1), 15);
        board.count(5, 1);
        noneJoined("with the clash", board);
        due.is("the outside one is no count", board.count(5, 5), -2);
        noneJoined("still with the clash", board);
        board.drop();
        due.is("without counts again", board.joined(0), 0);
        due.is("without counts again", board.joined(1), 1);
    }

    private static void noneJoined(String counts, RodBoard board) {
        due.is(counts + ", least", board.joined(0), LOST - 5);
        due.is(counts + ", what all go into", board.joined(1), LOST - 5);
    }

    /** OUTSIDE is told ahead of NO. */
    private static void joinedOutside() {
        for (RodBoard board : new RodBoard[] {new RodBoard(), with(3, 2, 5, 3), with(4, 1, 6, 2)}) {
            due.is("what 2", board.joined(2), LOST - 2);
            due.is("what -1", board.joined(-1), LOST - 2);
            due.is("what far off", board.joined(Integer.MIN_VALUE), LOST - 2);
        }
    }

    private static void clash() {
        due.is("without counts", with().clash(), -6);
        due.is("one", with(4, 1).clash(), -6);
        due.is("together", with(4, 1, 6, 3).clash(), -6);
        due.is("second", with(4, 1, 6, 2).clash(), 1);
        due.is("with the first", with(4, 1, 9, 0, 6, 5, 8, 6).clash(), 2);
        due.is("with one between", with(5, 1, 9, 1, 7, 1, 6, 2, 4, 1).clash(), 3);
        due.is("the same by", with(5, 1, 7, 1, 5, 2).clash(), 2);
        due.is("the same count", with(5, 1, 5, 1).clash(), -6);
    }

    private static void clashOfTheLast() {
        due.is("the sixth", with(2, 1, 3, 1, 5, 1, 7, 1, 11, 1, 22, 2).clash(), 5);
        due.is("the second, though the sixth does, too", with(2, 1, 2, 0, 5, 1, 7, 1, 11, 1, 22, 2).clash(), 1);
        due.is("six together", with(2, 1, 3, 1, 5, 1, 7, 1, 11, 1, 22, 1).clash(), -6);
        RodBoard board = with(2, 1, 2, 0);
        board.drop();
        due.is("gone with the counts", board.clash(), -6);
    }

    private static void seek() {
        RodBoard board = new RodBoard();
        due.is("turns", board.seek(65, 83, 0), 7);
        due.is("the one", board.seek(65, 83, 1), 23);
        due.is("below 0 at first", board.seek(3, 10, 1), 7);
        due.is("x", board.seek(65, 83, 2), 1);
        due.is("there is none", board.seek(6, 9, 1), -6);
        due.is("x", board.seek(6, 9, 2), 3);
        due.is("turns all the same", board.seek(6, 9, 0), 2);
        due.is("least", board.seek(1, 2, 1), 1);
        due.is("most", board.seek(999, 1000, 1), 999);
        due.is("a 0", board.seek(0, 9, 1), -2);
        due.is("a m", board.seek(9, 9, 1), -2);
        due.is("m 1", board.seek(1, 1, 1), -2);
        due.is("m 1001", board.seek(1, 1001, 1), -2);
        due.is("what 3", board.seek(1, 2, 3), -2);
        due.is("what -1", board.seek(1, 2, -1), -2);
        due.is("far off", board.seek(Integer.MIN_VALUE, Integer.MIN_VALUE, 0), -2);
    }

    /** Neighbours in the row 1, 2, 3, 5, 8 .. take the most turns. */
    private static void seekLongest() {
        RodBoard board = new RodBoard();
        due.is("turns", board.seek(610, 987, 0), 14);
        due.is("the one", board.seek(610, 987, 1), 610 * 610 % 987 == 1 ? 610 : 987 - 610);
        due.is("x", board.seek(610, 987, 2), 1);
    }

    private static void seekAtTheEdges() {
        RodBoard board = new RodBoard();
        due.is("least m, turns", board.seek(1, 2, 0), 1);
        due.is("least m, x", board.seek(1, 2, 2), 1);
        due.is("a 1, turns", board.seek(1, 1000, 0), 1);
        due.is("a 1", board.seek(1, 1000, 1), 1);
        due.is("a is m less 1, turns", board.seek(999, 1000, 0), 2);
        due.is("a is m less 1", board.seek(999, 1000, 1), 999);
        due.is("a goes into m, turns", board.seek(500, 1000, 0), 1);
        due.is("a goes into m: none", board.seek(500, 1000, 1), -6);
        due.is("a goes into m, x", board.seek(500, 1000, 2), 500);
    }

    /** No board is asked more than 512 times. */
    private static void seekAll() {
        int wrong = 0;
        for (int m = 2; m <= 1000; m++) {
            RodBoard board = new RodBoard();
            int asked = 0;
            for (int a = 1; a < m; a += m <= 200 ? 1 : 13) {
                asked += 2;
                if (asked > 512) due.is("asked", asked, 512);
                int one = board.seek(a, m, 1);
                if (board.seek(a, m, 2) == 1 ? one < 1 || one >= m || a * one % m != 1 : one != -6) wrong++;
            }
        }
        due.is("wrong ones", wrong, 0);
    }
}
