import java.util.ArrayList;
import java.util.List;

/**
 * The sentence on refused calls: what each answers, which refusal is told first where several fit, and
 * that none of them changes anything. Each is made on a board of its own, and all that can be asked
 * of that board is then compared with a board on which it was not made.
 */
public final class RefusalsTest {
    private static final long LOST = -1000000000000000L;
    private static final long BEYOND = 1000000000000L;
    private static final int LEAST = Integer.MIN_VALUE;
    private static final int MOST = Integer.MAX_VALUE;
    private static final int[] NO_ROWS = {-1, 8, LEAST, MOST};
    private static final Due due = new Due("RefusalsTest");

    private interface State {
        RodBoard made();
    }

    private interface Call {
        long on(RodBoard board);
    }

    private static State state;
    private static List<Long> unchanged;

    public static void main(String[] args) {
        on(RefusalsTest::busy);
        rods();
        adding();
        timesParting();
        roots();
        boardsAndNotes();
        copies();
        unknowns();
        counts();
        problems();
        asking();
        on(RefusalsTest::full);
        fullStrip();
        fullCounts();
        on(RefusalsTest::nearBeyond);
        beyond();
        on(RodBoard::new);
        newObject();
        withoutCopy();
        due.end();
    }

    private static void on(State next) {
        state = next;
        unchanged = allThatIsTold(state.made());
    }

    private static void refused(String call, long want, Call made) {
        keeps(call, want, made);
    }

    /** Such a call answers as told, and the board is as if it had not been made. */
    private static void keeps(String call, long want, Call made) {
        RodBoard board = state.made();
        due.is(call, made.on(board), want);
        List<Long> told = allThatIsTold(board);
        due.is(call + " changes nothing", told.equals(unchanged) ? 0 : 1, 0);
    }

    /** A board in the midst of everything: a strip, a working, a copy with a fault and a gap, a clash. */
    private static RodBoard busy() {
        RodBoard board = new RodBoard();
        long[] rows = {444, 777, -35, BEYOND - 1, 1000000, 0, 0, 1 - BEYOND};
        for (int row = 0; row < rows.length; row++) board.lay(row, rows[row]);
        board.strip(2);
        board.group(4, 1);
        board.add(0, 1);
        board.copy();
        board.write(1, 0, 1145);
        board.gap(3, 7);
        board.unknowns(2, 2);
        int[] numbers = {2, 3, 7, 5, -1, 9};
        for (int i = 0; i < numbers.length; i++) board.set(i / 3, i % 3, numbers[i]);
        board.count(4, 1);
        board.count(6, 2);
        return board;
    }

    private static RodBoard full() {
        RodBoard board = busy();
        board.wipe();
        for (int i = 0; i < 12; i++) board.group(i % 9 + 1, (i + 1) % 2);
        for (int i = 2; i < 6; i++) board.count(9, 1);
        return board;
    }

    private static RodBoard nearBeyond() {
        RodBoard board = new RodBoard();
        board.lay(6, 25);
        board.add(7, 6);
        board.copy();
        board.gap(0, 3);
        long[] rows = {999999999899L, 101, -999999999899L, -101, 999999, 1000002, 8, -999999};
        for (int row = 0; row < rows.length; row++) board.lay(row, rows[row]);
        return board;
    }

    /** The last three kinds of questions change the board: nothing is asked of it behind them. */
    private static List<Long> allThatIsTold(RodBoard board) {
        List<Long> told = new ArrayList<>();
        for (int what = 0; what < 8; what++) told.add((long) board.told(what));
        for (int row = 0; row < 8; row++) told.add(board.number(row));
        for (int i = 0; i <= board.readings(); i++) told.add(board.reading(i));
        for (int i = 0; i <= board.boards(); i++) boardIsTold(board, i, told);
        told.add((long) board.blame());
        for (int i = -1; i < 3; i++) told.add((long) board.mend(i));
        told.add((long) board.kind());
        told.add((long) board.turns());
        for (int what = 0; what < 2; what++) told.add(board.joined(what));
        told.add((long) board.clash());
        told.add((long) board.drop());
        told.add((long) board.wipe());
        for (int column = 0; column < 5; column++) {
            for (int k = 0; k < 5; k++) told.add((long) board.set(column, k, 0));
        }
        return told;
    }

    private static void boardIsTold(RodBoard board, int i, List<Long> told) {
        for (int row = 0; row < 8; row++) told.add(board.board(i, row));
        for (int row = 0; row < 8; row++) told.add(board.read(i, row));
        for (int what = 0; what < 6; what++) told.add((long) board.note(i, what));
        told.add((long) board.right(i));
    }

    private static void rods() {
        for (int row : NO_ROWS) {
            refused("lay: no row " + row, -1, board -> board.lay(row, 5));
            refused("lay: no row " + row + ", ahead of too much", -1, board -> board.lay(row, BEYOND));
            refused("number: no row " + row, LOST - 1, board -> board.number(row));
            refused("sticks: no row " + row, -1, board -> board.sticks(row, 0));
            refused("sticks: neither row nor place " + row, -1, board -> board.sticks(row, -1));
            refused("about: no row " + row, -1, board -> board.about(row, 0));
            refused("about: no row " + row + ", ahead of what", -1, board -> board.about(row, 4));
            refused("strip: no row " + row, -1, board -> board.strip(row));
        }
        for (long v : new long[] {BEYOND, -BEYOND, BEYOND + 1, LOST, Long.MIN_VALUE, Long.MAX_VALUE}) {
            refused("lay: " + v, -2, board -> board.lay(0, v));
        }
        for (int place : new int[] {-1, 12, LEAST, MOST}) {
            refused("sticks: no place " + place, -1, board -> board.sticks(0, place));
        }
        for (int what : new int[] {-1, 4, LEAST, MOST}) {
            refused("about: what " + what, -2, board -> board.about(0, what));
        }
        for (int sticks : new int[] {0, 10, -1, LEAST, MOST}) {
            refused("group: " + sticks + " sticks", -2, board -> board.group(sticks, 0));
        }
        for (int way : new int[] {-1, 2, LEAST, MOST}) {
            refused("group: way " + way, -2, board -> board.group(1, way));
        }
        for (int i : new int[] {-1, busy().readings(), LEAST, MOST}) {
            refused("reading: none " + i, LOST - 6, board -> board.reading(i));
        }
    }

    private static void adding() {
        for (int row : NO_ROWS) {
            refused("add: no row a " + row, -1, board -> board.add(row, 0));
            refused("add: no row b " + row, -1, board -> board.add(0, row));
            refused("add: neither " + row, -1, board -> board.add(row, row));
        }
        refused("add: to BEYOND", -4, board -> board.add(3, 1));
        refused("add: to -BEYOND", -4, board -> board.add(7, 2));
        refused("add: twice itself", -4, board -> board.add(3, 3));
    }

    private static void timesParting() {
        for (int row : NO_ROWS) {
            refused("times: no row a " + row, -1, board -> board.times(row, 0, 0));
            refused("times: no row b " + row, -1, board -> board.times(0, row, 0));
            refused("times: no row c " + row, -1, board -> board.times(3, 3, row));
            refused("part: no row a " + row, -1, board -> board.part(row, 2, 2));
            refused("part: no row b " + row, -1, board -> board.part(2, row, 2));
            refused("part: no row c " + row, -1, board -> board.part(2, 2, row));
        }
        refused("times: a is b, ahead of BEYOND", -3, board -> board.times(4, 4, 1));
        refused("times: a is c, ahead of BEYOND", -3, board -> board.times(4, 3, 4));
        refused("times: b is c, ahead of BEYOND", -3, board -> board.times(4, 3, 3));
        refused("times: all are one", -3, board -> board.times(0, 0, 0));
        refused("times: to BEYOND", -4, board -> board.times(4, 3, 1));
        refused("times: far beyond", -4, board -> board.times(3, 7, 1));
        refused("part: a is b, ahead of black", -3, board -> board.part(2, 2, 0));
        refused("part: a is c, ahead of b empty", -3, board -> board.part(0, 6, 0));
        refused("part: b is c, ahead of black", -3, board -> board.part(2, 1, 1));
        refused("part: all are one", -3, board -> board.part(0, 0, 0));
        refused("part: a black", -5, board -> board.part(2, 1, 0));
        refused("part: b black", -5, board -> board.part(0, 2, 1));
        refused("part: b empty", -5, board -> board.part(0, 6, 1));
        refused("part: both", -5, board -> board.part(2, 7, 1));
        refused("part: both empty", -5, board -> board.part(5, 6, 1));
    }

    private static void roots() {
        for (int row : NO_ROWS) {
            refused("root: no row a " + row + ", ahead of n", -1, board -> board.root(row, 0, 4));
            refused("root: no row b " + row + ", ahead of n", -1, board -> board.root(2, row, 1));
            refused("root: neither " + row + ", ahead of one row", -1, board -> board.root(row, row, 2));
        }
        for (int n : new int[] {1, 4, 0, -2, LEAST, MOST}) {
            refused("root: n " + n, -2, board -> board.root(0, 1, n));
            refused("root: n " + n + ", ahead of one row", -2, board -> board.root(0, 0, n));
            refused("root: n " + n + ", ahead of black", -2, board -> board.root(2, 0, n));
        }
        for (int n = 2; n <= 3; n++) {
            int power = n;
            refused("root: one row, ahead of black, n " + n, -3, board -> board.root(2, 2, power));
            refused("root: one row, n " + n, -3, board -> board.root(0, 0, power));
            refused("root: a black, n " + n, -5, board -> board.root(2, 0, power));
        }
    }

    private static void boardsAndNotes() {
        for (int i : new int[] {-1, 4, LEAST, MOST}) {
            refused("board: none " + i, LOST - 1, board -> board.board(i, 0));
        }
        for (int row : NO_ROWS) {
            refused("board: no row " + row, LOST - 1, board -> board.board(0, row));
            refused("board: neither board nor row " + row, LOST - 1, board -> board.board(4, row));
        }
        for (int i : new int[] {-1, 3, LEAST, MOST}) {
            refused("note: no step " + i, -101, board -> board.note(i, 0));
            refused("note: no step " + i + ", ahead of what", -101, board -> board.note(i, 6));
        }
        for (int what : new int[] {-1, 6, LEAST, MOST}) {
            refused("note: what " + what, -102, board -> board.note(0, what));
        }
    }

    private static void copies() {
        for (int i : new int[] {-1, 4, LEAST, MOST}) {
            refused("write: no board " + i, -1, board -> board.write(i, 0, 5));
            refused("write: no board " + i + ", ahead of too much", -1, board -> board.write(i, 0, BEYOND));
            refused("gap: no board " + i, -1, board -> board.gap(i, 0));
            refused("read: no board " + i, LOST - 1, board -> board.read(i, 0));
        }
        for (int row : NO_ROWS) {
            refused("write: no row " + row, -1, board -> board.write(0, row, 5));
            refused("write: no row " + row + ", ahead of too much", -1, board -> board.write(0, row, -BEYOND));
            refused("gap: no row " + row, -1, board -> board.gap(0, row));
            refused("read: no row " + row, LOST - 1, board -> board.read(0, row));
        }
        for (long v : new long[] {BEYOND, -BEYOND, LOST, LOST - 6, Long.MIN_VALUE, Long.MAX_VALUE}) {
            refused("write: " + v, -2, board -> board.write(0, 0, v));
            refused("write: " + v + " in a gap", -2, board -> board.write(3, 7, v));
        }
        for (int i : new int[] {-1, 3, LEAST, MOST}) {
            refused("right: no step " + i, -1, board -> board.right(i));
        }
        for (int i : new int[] {-2, 2, LEAST, MOST}) {
            refused("mend: none " + i, -6, board -> board.mend(i));
        }
    }

    private static void unknowns() {
        for (int n : new int[] {0, 5, -1, LEAST, MOST}) {
            refused("unknowns: n " + n, -2, board -> board.unknowns(n, 2));
            refused("unknowns: n and m " + n, -2, board -> board.unknowns(n, 6));
        }
        for (int m : new int[] {0, 6, -1, LEAST, MOST}) {
            refused("unknowns: m " + m, -2, board -> board.unknowns(2, m));
        }
        for (int column : new int[] {-1, 2, LEAST, MOST}) {
            refused("set: no column " + column, -100001, board -> board.set(column, 0, 1));
            refused("set: no column " + column + ", ahead of v", -100001, board -> board.set(column, 0, 51));
            refused("cleared: no column " + column, LOST - 1, board -> board.cleared(column, 0));
        }
        for (int k : new int[] {-1, 3, LEAST, MOST}) {
            refused("set: no number " + k, -100001, board -> board.set(0, k, 1));
            refused("set: no number " + k + ", ahead of v", -100001, board -> board.set(0, k, 10000));
            refused("cleared: no number " + k, LOST - 1, board -> board.cleared(0, k));
        }
        for (int v : new int[] {51, -51, 9999, LEAST, MOST}) {
            refused("set: " + v, -100002, board -> board.set(0, 1, v));
        }
        for (int v : new int[] {10000, -10000, LEAST, MOST}) {
            refused("set: all come to " + v, -100002, board -> board.set(0, 2, v));
        }
        for (int k : new int[] {-1, 2, LEAST, MOST}) {
            refused("answer: no unknown " + k, LOST - 1, board -> board.answer(k, 0));
            refused("answer: no unknown " + k + ", ahead of part", LOST - 1, board -> board.answer(k, 2));
            refused("free: no unknown " + k, -1, board -> board.free(k));
        }
        for (int part : new int[] {-1, 2, LEAST, MOST}) {
            refused("answer: part " + part, LOST - 2, board -> board.answer(0, part));
        }
    }

    private static void counts() {
        for (int by : new int[] {1, 1001, 0, -1, LEAST, MOST}) {
            refused("count: by " + by, -2, board -> board.count(by, 0));
        }
        for (int left : new int[] {-1, 5, 6, LEAST, MOST}) {
            refused("count: left " + left, -2, board -> board.count(5, left));
        }
        for (int what : new int[] {-1, 2, LEAST, MOST}) {
            refused("joined: what " + what + ", ahead of a clash", LOST - 2, board -> board.joined(what));
        }
        refused("joined: a clash", LOST - 5, board -> board.joined(0));
        refused("joined: a clash, what all go into", LOST - 5, board -> board.joined(1));
        for (int m : new int[] {1, 1001, 0, -1, LEAST, MOST}) {
            refused("seek: m " + m, -2, board -> board.seek(1, m, 0));
        }
        for (int a : new int[] {0, 9, 10, -1, LEAST, MOST}) {
            refused("seek: a " + a, -2, board -> board.seek(a, 9, 1));
        }
        for (int what : new int[] {-1, 3, LEAST, MOST}) {
            refused("seek: what " + what, -2, board -> board.seek(2, 9, what));
        }
    }

    private static void problems() {
        for (int kind : new int[] {-1, 6, LEAST, MOST}) {
            refused("problem: kind " + kind, LOST - 2, board -> board.problem(kind, 1, 1, 3, 0, 0));
        }
        for (int part : new int[] {-1, 2, LEAST, MOST}) {
            refused("problem: part " + part, LOST - 2, board -> board.problem(0, 1, 1, 3, 0, part));
            refused("problem: part " + part + ", ahead of no answer", LOST - 2,
                board -> board.problem(1, 1, 0, 0, 0, part));
        }
        for (int v : new int[] {-1, 1000001, LEAST, MOST}) {
            refused("problem: x " + v + ", ahead of no answer", LOST - 2, board -> board.problem(1, v, 0, 0, 0, 0));
            refused("problem: y " + v + ", ahead of no answer", LOST - 2, board -> board.problem(4, 3, v, 0, 0, 0));
            refused("problem: z " + v + ", ahead of no answer", LOST - 2, board -> board.problem(3, 1, 3, v, 0, 0));
            refused("problem: w " + v + ", ahead of no answer", LOST - 2, board -> board.problem(5, 1, 1, 1, v, 0));
        }
        refused("problem: no answer", LOST - 5, board -> board.problem(1, 5, 0, 0, 0, 0));
        for (int what : new int[] {-1, 8, LEAST, MOST}) {
            refused("told: what " + what, -2, board -> board.told(what));
        }
    }

    /** Calls that only ask are not refused, and change nothing either. */
    private static void asking() {
        keeps("number", -35, board -> board.number(2));
        keeps("sticks", 5, board -> board.sticks(2, 0));
        keeps("about", 2, board -> board.about(2, 0));
        keeps("readings", busy().readings(), RodBoard::readings);
        keeps("reading", busy().reading(0), board -> board.reading(0));
        keeps("boards", 4, RodBoard::boards);
        keeps("board", 444, board -> board.board(0, 0));
        keeps("note", 7, board -> board.note(0, 3));
        keeps("read", 1145, board -> board.read(1, 0));
        keeps("read of a gap", LOST - 6, board -> board.read(3, 7));
        keeps("right", 0, board -> board.right(0));
        keeps("blame", 1, RodBoard::blame);
        keeps("mend", 2, board -> board.mend(-1));
        keeps("the mend", 5, board -> board.mend(0));
        keeps("kind", 1, RodBoard::kind);
        keeps("turns", 1, RodBoard::turns);
        keeps("cleared", 3, board -> board.cleared(0, 1));
        keeps("answer", 2, board -> board.answer(0, 0));
        keeps("free", 0, board -> board.free(0));
        keeps("clash", 1, RodBoard::clash);
        keeps("seek", 5, board -> board.seek(2, 9, 1));
        keeps("problem", 6, board -> board.problem(0, 2, 3, 0, 0, 0));
        keeps("told", 4, board -> board.told(0) + board.told(2));
        keeps("write of what is there", 0, board -> board.write(1, 0, 1145));
        keeps("gap that is there", 0, board -> board.gap(3, 7));
        keeps("set of what is there", 7, board -> board.set(0, 2, 7));
        keeps("lay of what is there", 2, board -> board.lay(2, -35));
    }

    private static void fullStrip() {
        refused("group: a thirteenth", -4, board -> board.group(1, 0));
        refused("group: lying", -4, board -> board.group(9, 1));
        refused("group: no sticks, ahead of full", -2, board -> board.group(0, 0));
        refused("group: ten sticks, ahead of full", -2, board -> board.group(10, 1));
        refused("group: way 2, ahead of full", -2, board -> board.group(1, 2));
        refused("group: way -1, ahead of full", -2, board -> board.group(1, -1));
        refused("strip: no row", -1, board -> board.strip(8));
    }

    private static void fullCounts() {
        refused("count: a seventh", -4, board -> board.count(5, 0));
        refused("count: by 1, ahead of full", -2, board -> board.count(1, 0));
        refused("count: by 1001, ahead of full", -2, board -> board.count(1001, 0));
        refused("count: left as many, ahead of full", -2, board -> board.count(5, 5));
        refused("count: left -1, ahead of full", -2, board -> board.count(5, -1));
        refused("joined: a clash", LOST - 5, board -> board.joined(0));
        refused("joined: what 2, ahead of a clash", LOST - 2, board -> board.joined(2));
    }

    /** BEYOND at the last step only: nothing of the steps ahead of it stays. */
    private static void beyond() {
        refused("add: at the last step", -4, board -> board.add(0, 1));
        refused("add: below, at the last step", -4, board -> board.add(2, 3));
        refused("times: at the last step, c not emptied", -4, board -> board.times(4, 5, 6));
        refused("times: below, at the last step", -4, board -> board.times(7, 5, 6));
    }

    private static void newObject() {
        refused("copy: no boards", -3, RodBoard::copy);
        refused("board: none yet", LOST - 1, board -> board.board(0, 0));
        refused("note: none yet", -101, board -> board.note(0, 0));
        refused("note: none yet, ahead of what", -101, board -> board.note(0, 6));
        refused("answer: many", LOST - 3, board -> board.answer(0, 0));
        refused("answer: part, ahead of many", LOST - 2, board -> board.answer(0, 2));
        refused("answer: no unknown, ahead of many", LOST - 1, board -> board.answer(1, 0));
        refused("reading: no second", LOST - 6, board -> board.reading(1));
        keeps("wipe: nothing", 0, RodBoard::wipe);
        keeps("drop: nothing", 0, RodBoard::drop);
        keeps("lay: an empty row", 0, board -> board.lay(7, 0));
        keeps("strip: of an empty row", 0, board -> board.strip(7));
    }

    /** STATE is told ahead of all else where there is no COPY. */
    private static void withoutCopy() {
        refused("blame: no copy", -3, RodBoard::blame);
        refused("fill: no copy", -3, RodBoard::fill);
        for (int i : new int[] {-1, 0, LEAST, MOST}) {
            refused("write: no copy, ahead of board " + i, -3, board -> board.write(i, 0, 5));
            refused("write: no copy, ahead of row " + i, -3, board -> board.write(0, i, 5));
            refused("write: no copy, ahead of too much " + i, -3, board -> board.write(i, i, BEYOND));
            refused("gap: no copy, ahead of board " + i, -3, board -> board.gap(i, 0));
            refused("gap: no copy, ahead of row " + i, -3, board -> board.gap(0, i));
            refused("read: no copy, ahead of board " + i, LOST - 3, board -> board.read(i, 0));
            refused("read: no copy, ahead of row " + i, LOST - 3, board -> board.read(0, i));
            refused("right: no copy, ahead of step " + i, -3, board -> board.right(i));
            refused("mend: no copy, ahead of " + i, -3, board -> board.mend(i));
        }
    }
}
