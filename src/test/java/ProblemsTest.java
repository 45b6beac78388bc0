/** Promises 38 and 39: old problems, and what is told of all. */
public final class ProblemsTest {
    private static final long LOST = -1000000000000000L;
    private static final int MOST = 1000000;
    private static final Due due = new Due("ProblemsTest");
    private static RodBoard board = new RodBoard();

    public static void main(String[] args) {
        outside();
        outsideAheadOfNo();
        field();
        fieldOfTheGreatest();
        shared();
        sharedAtTheEdges();
        square();
        squareOfEachLeast();
        birdsAndBeasts();
        birdsAndBeastsNot();
        leftByThreeFiveSeven();
        leftOfAll();
        boughtTogether();
        boughtTogetherNot();
        told();
        toldOfNothing();
        toldOfTheMost();
        due.end();
    }

    private static void answers(long first, long second, int kind, int... told) {
        int[] v = java.util.Arrays.copyOf(told, 4);
        String call = "problem " + kind + " " + java.util.Arrays.toString(told);
        due.is(call, board.problem(kind, v[0], v[1], v[2], v[3], 0), first);
        due.is(call + " second", board.problem(kind, v[0], v[1], v[2], v[3], 1), second);
    }

    private static void none(int kind, int... told) {
        answers(LOST - 5, LOST - 5, kind, told);
    }

    private static void isOutside(int kind, int... told) {
        answers(LOST - 2, LOST - 2, kind, told);
    }

    private static void outside() {
        isOutside(-1, 1, 1, 1, 1);
        isOutside(6, 1, 1, 1, 1);
        for (int kind = 0; kind < 6; kind++) {
            for (int i = 0; i < 4; i++) {
                int[] told = {1, 1, 1, 1};
                told[i] = -1;
                isOutside(kind, told);
                told[i] = MOST + 1;
                isOutside(kind, told);
                told[i] = Integer.MIN_VALUE;
                isOutside(kind, told);
            }
            due.is("part 2", board.problem(kind, 1, 1, 3, 0, 2), LOST - 2);
            due.is("part -1", board.problem(kind, 1, 1, 3, 0, -1), LOST - 2);
        }
        due.is("outside ahead of no answer", board.problem(1, 1, 0, 0, -1, 0), LOST - 2);
    }

    /** What would be answered NO, were the numbers not outside. */
    private static void outsideAheadOfNo() {
        board = new RodBoard();
        isOutside(1, MOST + 1, 0);
        isOutside(3, 1, -1, 2);
        isOutside(4, MOST + 1, 0, 0);
        isOutside(4, 3, 5, 7, MOST + 1);
        isOutside(5, 1, MOST + 1, 1);
        isOutside(5, -1, 0, 0);
        isOutside(Integer.MAX_VALUE, 1, 0);
        isOutside(Integer.MIN_VALUE, 1, 0);
        due.is("part, ahead of no answer", board.problem(1, 1, 0, 0, 0, 2), LOST - 2);
        due.is("part far off", board.problem(0, 1, 1, 0, 0, Integer.MAX_VALUE), LOST - 2);
        due.is("part far off", board.problem(0, 1, 1, 0, 0, Integer.MIN_VALUE), LOST - 2);
    }

    private static void field() {
        answers(240, 0, 0, 15, 16);
        answers(0, 0, 0, 0, 16);
        answers(1000000000000L, 0, 0, MOST, MOST);
    }

    /** Numbers that a kind does not ask for do not matter, as long as they are not outside. */
    private static void fieldOfTheGreatest() {
        answers(1000000000000L, 0, 0, MOST, MOST, MOST, MOST);
        answers(0, 0, 0, MOST, 0);
        answers(0, 0, 0, 0, MOST);
        answers(0, 0, 0, 0, 0);
        answers(1, 0, 0, 1, 1);
        answers(999999000000L, 0, 0, MOST - 1, MOST);
    }

    private static void shared() {
        answers(14, 2, 1, 100, 7);
        answers(0, 5, 1, 5, 6);
        answers(MOST, 0, 1, MOST, 1);
        answers(0, 0, 1, 0, 3);
        none(1, 5, 0);
    }

    private static void sharedAtTheEdges() {
        answers(0, MOST - 1, 1, MOST - 1, MOST);
        answers(1, 0, 1, MOST, MOST);
        answers(1, 1, 1, MOST, MOST - 1);
        answers(0, 0, 1, 0, MOST);
        answers(0, 0, 1, 0, 1);
        none(1, 0, 0);
        none(1, MOST, 0, MOST, MOST);
    }

    private static void square() {
        answers(235, 0, 2, 55225);
        answers(234, 468, 2, 55224);
        answers(0, 0, 2, 0);
        answers(1, 0, 2, 1);
        answers(1, 2, 2, 3);
        answers(1000, 0, 2, MOST);
    }

    private static void squareOfEachLeast() {
        int[] sides = {0, 1, 1, 1, 2, 2, 2, 2, 2, 3};
        for (int x = 0; x <= 9; x++) answers(sides[x], x - sides[x] * sides[x], 2, x);
        answers(999, 1998, 2, MOST - 1);
        answers(999, 0, 2, 998001);
        answers(998, 1996, 2, 998000);
        answers(1000, 0, 2, MOST, MOST, MOST, MOST);
    }

    private static void birdsAndBeasts() {
        answers(23, 12, 3, 35, 94, 4);
        answers(35, 0, 3, 35, 70, 4);
        answers(0, 35, 3, 35, 140, 4);
        answers(1, 2, 3, 3, 14, 6);
        answers(0, 0, 3, 0, 0, 3);
        none(3, 35, 94, 2);
        none(3, 35, 70, 2);
        none(3, 35, 94, 0);
        none(3, 35, 95, 4);
        none(3, 35, 68, 4);
        none(3, 35, 142, 4);
        answers(0, 1, 3, 1, MOST, MOST);
    }

    private static void birdsAndBeastsNot() {
        none(3, 10, 20, 2);
        none(3, 10, 20, 1);
        none(3, 0, 0, 0);
        none(3, 0, 0, 2);
        none(3, 0, 1, 3);
        none(3, 0, 2, 3);
        none(3, 1, 1, 3);
        none(3, 1, 4, 3);
        answers(1, 0, 3, 1, 2, 3);
        answers(0, 1, 3, 1, 3, 3);
        answers(1, 1, 3, 2, 7, 5);
        none(3, 2, 8, 5);
        none(3, 2, 6, 5);
        none(3, MOST, MOST, 3);
        answers(MOST / 2, 0, 3, MOST / 2, MOST, MOST);
        none(3, 1, MOST - 1, MOST);
        answers(0, 0, 3, 0, 0, MOST, MOST);
    }

    private static void leftByThreeFiveSeven() {
        answers(23, 0, 4, 2, 3, 2);
        answers(0, 0, 4, 0, 0, 0);
        answers(104, 0, 4, 2, 4, 6);
        none(4, 3, 0, 0);
        none(4, 0, 5, 0);
        none(4, 0, 0, 7);
    }

    private static void leftOfAll() {
        board = new RodBoard();
        for (int v = 0; v < 105; v++) answers(v, 0, 4, v % 3, v % 5, v % 7);
        board = new RodBoard();
        none(4, 3, 4, 6);
        none(4, 2, 5, 6);
        none(4, 2, 4, 7);
        none(4, 3, 5, 7);
        none(4, MOST, 0, 0);
        none(4, 0, MOST, 0);
        none(4, 0, 0, MOST);
        answers(104, 0, 4, 2, 4, 6, MOST);
        isOutside(4, 0, 0, -1);
    }

    private static void boughtTogether() {
        answers(7, 53, 5, 8, 3, 7, 4);
        answers(0, 0, 5, 8, 0, 7, 0);
        answers(4, 12, 5, 3, 0, 0, 12);
        answers(1, 1, 5, 3, 2, 0, 1);
        none(5, 8, 3, 5, 4);
        none(5, 3, 4, 0, 1);
        none(5, 7, 1, 7, 1);
        none(5, 7, 0, 7, 0);
        none(5, 6, 1, 7, 1);
        answers(2 * MOST, (long) MOST * (2L * MOST - 1), 5, MOST, MOST, MOST - 1, MOST);
    }

    private static void boughtTogetherNot() {
        none(5, 0, 0, 0, 0);
        none(5, MOST, MOST, MOST, MOST);
        none(5, 0, 5, 1, 5);
        none(5, 3, 1, 0, 1);
        none(5, MOST, 1, 0, 0);
        answers(0, 0, 5, 1, 0, 0, 0);
        answers(1, 0, 5, 1, 1, 0, 0);
        answers(1, 1, 5, 1, 0, 0, 1);
        answers(2, 0, 5, MOST / 2, MOST, 0, 0);
        answers(2 * MOST, MOST, 5, 1, MOST, 0, MOST);
        answers(1, MOST, 5, MOST, 0, 0, MOST);
    }

    private static void told() {
        RodBoard all = new RodBoard();
        all.lay(0, 305);
        all.lay(7, -41);
        all.strip(0);
        all.group(1, 1);
        all.add(0, 7);
        all.copy();
        all.gap(1, 1);
        all.gap(2, 7);
        all.unknowns(3, 2);
        all.count(9, 1);
        int[] told = {3, 2, 1, 3, 2, 1, 2, 2 + 6 + 4 + 5};
        for (int what = 0; what < told.length; what++) due.is("told " + what, all.told(what), told[what]);
        due.is("what 8", all.told(8), -2);
        due.is("what -1", all.told(-1), -2);
    }

    /** What goes again, or is taken away. */
    private static void toldOfNothing() {
        RodBoard all = new RodBoard();
        int[] first = {0, 0, 0, 1, 1, 0, 0, 0};
        for (int what = 0; what < 8; what++) due.is("new: told " + what, all.told(what), first[what]);
        all.lay(0, -9);
        all.strip(0);
        all.add(1, 0);
        all.copy();
        all.gap(0, 0);
        all.count(2, 0);
        all.wipe();
        all.drop();
        all.add(1, 2);
        int[] told = {0, 0, 0, 1, 1, 0, 0, 18};
        for (int what = 0; what < 8; what++) due.is("taken away: told " + what, all.told(what), told[what]);
        due.is("far off", all.told(Integer.MAX_VALUE), -2);
        due.is("far off", all.told(Integer.MIN_VALUE), -2);
    }

    private static void toldOfTheMost() {
        RodBoard all = new RodBoard();
        for (int row = 0; row < 8; row++) all.lay(row, row % 2 == 0 ? 999999999999L : -999999999999L);
        all.strip(0);
        all.add(0, 1);
        due.is("sticks of seven rows", all.told(7), 7 * 108);
        all.lay(0, 999999999999L);
        due.is("sticks of all rows", all.told(7), 8 * 108);
        due.is("groups", all.told(0), 12);
        due.is("steps", all.told(1), 12);
        all.copy();
        for (int i = 0; i < 13; i++) {
            for (int row = 0; row < 8; row++) all.gap(i, row);
        }
        due.is("gaps", all.told(6), 104);
        due.is("a copy", all.told(2), 1);
    }
}
