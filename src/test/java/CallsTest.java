/** What it is: an object stands 512 calls, of whichever kind, and answers the last as it did the first. */
public final class CallsTest {
    private static final int CALLS = 512;
    private static final long BEYOND = 1000000000000L;
    private static final Due due = new Due("CallsTest");

    private interface Call {
        long on(RodBoard board, int call);
    }

    public static void main(String[] args) {
        longestWorkings();
        workingsByTurns();
        copies();
        mends();
        fills();
        readings();
        clearings();
        joinings();
        refusals();
        twoBoards();
        due.end();
    }

    /** The calls that are left of the 512 all answer alike. */
    private static void alike(String what, RodBoard board, int made, long want, Call call) {
        int wrong = 0;
        for (int i = made; i < CALLS; i++) {
            if (call.on(board, i) != want) wrong++;
        }
        due.is(what + ": wrong ones", wrong, 0);
    }

    private static void longestWorkings() {
        RodBoard board = new RodBoard();
        board.lay(0, 1111111);
        board.lay(1, 111111);
        board.lay(2, 8);
        alike("times", board, 3, 43, (it, call) -> it.times(0, 1, 2));
        board = new RodBoard();
        board.lay(0, BEYOND - 1);
        alike("add, and empty again", board, 1, 12, (it, call) -> call % 2 == 1 ? it.add(1, 0) : 12 + it.lay(1, 0));
    }

    /** Each working leaves the rows so that the next one goes. */
    private static void workingsByTurns() {
        RodBoard board = new RodBoard();
        int calls = 0;
        int wrong = 0;
        for (; calls + 8 <= CALLS; calls += 8) {
            board.lay(0, BEYOND - 1);
            board.lay(1, 7);
            if (board.part(0, 1, 2) != (calls == 0 ? 12 : 13)) wrong++;
            if (board.number(2) != 142857142857L) wrong++;
            if (board.root(2, 3, 2) != (calls == 0 ? 6 : 7)) wrong++;
            if (board.number(3) != 377964) wrong++;
            if (board.boards() != (calls == 0 ? 7 : 8)) wrong++;
            board.copy();
        }
        due.is("calls", calls, CALLS);
        due.is("wrong ones", wrong, 0);
    }

    private static void copies() {
        RodBoard board = longest();
        alike("copy", board, 3, 352, (it, call) -> it.copy());
    }

    /** 1111111 by 111111: 42 boards behind the first one, and c was emptied. */
    private static RodBoard longest() {
        RodBoard board = new RodBoard();
        board.lay(0, 1111111);
        board.lay(1, 111111);
        board.lay(2, 8);
        board.times(0, 1, 2);
        return board;
    }

    private static void mends() {
        RodBoard board = longest();
        board.copy();
        board.write(43, 2, 123456654322L);
        alike("mend", board, 6, 4302001, (it, call) -> it.mend(0));
        due.is("nothing was changed by trying", board.read(43, 2), 123456654322L);
    }

    private static void fills() {
        RodBoard board = longest();
        board.copy();
        alike("gap and fill", board, 5, 1, (it, call) -> call % 2 == 1 ? it.gap(43, call % 8) : it.fill());
    }

    private static void readings() {
        RodBoard board = new RodBoard();
        alike("group, and full", board, 0, 0, (it, call) -> it.group(1, call % 2) - (call < 12 ? call + 1 : -4));
        board = new RodBoard();
        for (int i = 0; i < 6; i++) board.group(1, 0);
        alike("reading", board, 6, 10101010101L, (it, call) -> it.reading(0));
    }

    private static void clearings() {
        RodBoard board = new RodBoard();
        board.unknowns(4, 5);
        int calls = 1;
        for (int column = 0; column < 4; column++) {
            for (int k = 0; k <= column; k++, calls++) board.set(column, k, 50 - column * k);
            board.set(column, 4, 9999 - column);
            calls++;
        }
        long last = board.answer(3, 0);
        due.is("kind", board.kind(), 1);
        alike("answer", board, calls + 2, last, (it, call) -> it.answer(3, 0));
        board = new RodBoard();
        alike("set", board, 0, 0, (it, call) -> it.set(0, 1, call) - Math.max(0, call - 1));
    }

    private static void joinings() {
        RodBoard board = new RodBoard();
        int[] bys = {1000, 999, 997, 991, 983, 977};
        for (int by : bys) board.count(by, by - 1);
        alike("joined", board, 6, 1000L * 999 * 997 * 991 * 983 * 977 - 1, (it, call) -> it.joined(0));
        board = new RodBoard();
        alike("count and drop", board, 0, 1, (it, call) -> call % 2 == 0 ? it.count(2, 1) : it.drop());
    }

    private static void refusals() {
        alike("no row", new RodBoard(), 0, -1, (it, call) -> it.lay(8 + call, call));
        alike("no copy", new RodBoard(), 0, -3, (it, call) -> it.mend(call));
        alike("no such kind", new RodBoard(), 0, RodBoard.LOST - 2, (it, call) -> it.problem(6 + call, 1, 1, 1, 1, 0));
    }

    /** Boards share nothing. */
    private static void twoBoards() {
        RodBoard one = longest();
        RodBoard other = new RodBoard();
        one.group(1, 0);
        one.unknowns(4, 5);
        one.count(7, 3);
        one.copy();
        int[] told = {0, 0, 0, 1, 1, 0, 0, 0};
        for (int what = 0; what < 8; what++) due.is("other: told " + what, other.told(what), told[what]);
        other.lay(0, 5);
        other.add(1, 0);
        due.is("one's rows stay", one.number(0), 1111111);
        due.is("and its boards", one.boards(), 44);
        due.is("and its copy", one.told(2), 1);
    }
}
