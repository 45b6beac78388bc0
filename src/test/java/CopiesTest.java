/** Promises 18 to 25: the copy, its gaps and faults, the blame, mends and filling. */
public final class CopiesTest {
    private static final long LOST = -1000000000000000L;
    private static final long BEYOND = 1000000000000L;
    private static final Due due = new Due("CopiesTest");

    public static void main(String[] args) {
        copy();
        copyOfRefusedWorkings();
        write();
        writeEachCell();
        gap();
        gapEverywhere();
        read();
        right();
        rightInEachRow();
        rightBesideGaps();
        walkLeadsNowhere();
        blame();
        blameOfEachStep();
        mend();
        mendOfEachRow();
        mendOfEachPlaceAndDigit();
        mendOfColours();
        mendKeepsWhatWasRight();
        mendBesideDark();
        mendBesideNothing();
        mendOfOtherKinds();
        mendOfTwoFaults();
        fill();
        fillNot();
        fillOfTheLongest();
        fillAgreesInEachRow();
        fillNotOfBoard0();
        fillAdding();
        fillTimes();
        fillParting();
        fillRoots();
        fillEmptying();
        due.end();
    }

    private static RodBoard with(long... rows) {
        RodBoard board = new RodBoard();
        for (int row = 0; row < rows.length; row++) board.lay(row, rows[row]);
        return board;
    }

    /** 444 and 777: boards 444, 1144, 1214, 1221. */
    private static RodBoard addition() {
        RodBoard board = with(444, 777);
        board.add(0, 1);
        board.copy();
        return board;
    }

    /** 30 by 1 into row 2: one step, 3 at place 1. */
    private static RodBoard parting() {
        RodBoard board = with(30, 1);
        board.part(0, 1, 2);
        board.copy();
        return board;
    }

    /** The root of 9, n 2, or of 27, n 3, into row 1: one step, 3 at place 0. */
    private static RodBoard root(int n) {
        RodBoard board = with(n == 2 ? 9 : 27);
        board.root(0, 1, n);
        board.copy();
        return board;
    }

    private static void writeBoth(RodBoard board, int row, long ahead, long behind) {
        board.write(0, row, ahead);
        board.write(1, row, behind);
    }

    private static void mendsAre(String what, RodBoard board, int... mends) {
        due.is(what + ": how many", board.mend(-1), mends.length);
        for (int i = 0; i < mends.length; i++) due.is(what + ": mend " + i, board.mend(i), mends[i]);
        due.is(what + ": no more", board.mend(mends.length), -6);
    }

    private static void copy() {
        RodBoard board = with(444, 777);
        due.is("no boards", board.copy(), -3);
        due.is("told", board.told(2), 0);
        board.add(0, 1);
        due.is("not made by the working", board.told(2), 0);
        due.is("cells", board.copy(), 32);
        due.is("told", board.told(2), 1);
        board.write(0, 0, 5);
        board.gap(1, 1);
        due.is("anew", board.copy(), 32);
        due.is("as it is", board.read(0, 0), 444);
        due.is("no gaps", board.told(6), 0);
        due.is("the boards stay apart", board.board(0, 0), 444);
        board.times(0, 0, 0);
        board.add(-1, 0);
        board.part(0, 5, 6);
        board.root(0, 1, 4);
        board.lay(0, 3);
        due.is("what is refused leaves it", board.told(2), 1);
        board.add(0, 5);
        due.is("a working takes it away", board.told(2), 0);
        due.is("of one board", board.copy(), 8);
        board.times(0, 1, 2);
        due.is("times takes it away", board.read(0, 0), LOST - 3);
        board.copy();
        board.part(0, 1, 2);
        due.is("part takes it away", board.told(2), 0);
        board.copy();
        board.root(0, 1, 2);
        due.is("root takes it away", board.told(2), 0);
    }

    private static void copyOfRefusedWorkings() {
        RodBoard board = with(BEYOND - 1, 1, -1);
        due.is("full", board.add(0, 1), -4);
        due.is("no boards", board.copy(), -3);
        due.is("no", board.root(2, 3, 2), -5);
        due.is("no boards", board.copy(), -3);
        due.is("no steps", board.add(0, 7), 0);
        due.is("a copy all the same", board.copy(), 8);
        due.is("of what is held", board.read(0, 0), BEYOND - 1);
    }

    private static void write() {
        RodBoard board = with(444, 777);
        board.add(0, 1);
        due.is("no copy, ahead of all", board.write(9, 9, BEYOND), -3);
        board.copy();
        due.is("as it was", board.write(3, 0, 1221), 0);
        due.is("other", board.write(3, 0, 1222), 1);
        due.is("back", board.write(3, 0, 1221), 1);
        board.gap(3, 0);
        due.is("was a gap", board.write(3, 0, 1221), 1);
        due.is("least", board.write(3, 7, 1 - BEYOND), 1);
        due.is("read", board.read(3, 7), 1 - BEYOND);
        due.is("too much", board.write(3, 7, BEYOND), -2);
        due.is("too little", board.write(3, 7, -BEYOND), -2);
        due.is("a gap is not written", board.write(3, 7, LOST), -2);
        due.is("no board 4 ahead of too much", board.write(4, 0, BEYOND), -1);
        due.is("no board -1", board.write(-1, 0, 1), -1);
        due.is("no row 8", board.write(0, 8, 1), -1);
        due.is("no row -1", board.write(0, -1, 1), -1);
        due.is("unchanged", board.read(3, 7), 1 - BEYOND);
    }

    private static void writeEachCell() {
        RodBoard board = addition();
        for (int i = 0; i < 4; i++) {
            for (int row = 0; row < 8; row++) {
                due.is("other", board.write(i, row, -100 * i - row - 5000), 1);
                due.is("as it is", board.write(i, row, -100 * i - row - 5000), 0);
            }
        }
        for (int i = 0; i < 4; i++) {
            for (int row = 0; row < 8; row++) due.is("read", board.read(i, row), -100 * i - row - 5000);
        }
        due.is("nothing in an empty cell", board.write(0, 7, 0), 1);
        due.is("again", board.write(0, 7, 0), 0);
        due.is("the boards stay", board.board(3, 0), 1221);
        due.is("and the rows", board.number(0), 1221);
    }

    private static void gap() {
        RodBoard board = with(444, 777);
        board.add(0, 1);
        due.is("no copy, ahead of unknown", board.gap(9, 9), -3);
        board.copy();
        due.is("a gap", board.gap(1, 2), 1);
        due.is("it was", board.gap(1, 2), 0);
        due.is("told", board.told(6), 1);
        due.is("no board", board.gap(4, 0), -1);
        due.is("no board", board.gap(-1, 0), -1);
        due.is("no row", board.gap(0, 8), -1);
        due.is("no row", board.gap(0, -1), -1);
        board.write(1, 2, 0);
        due.is("written again", board.told(6), 0);
        for (int row = 0; row < 8; row++) {
            board.gap(2, row);
            due.is("dark by row " + row, board.right(1), 2);
            due.is("and behind it", board.right(2), 2);
            due.is("told", board.told(6), 1);
            board.copy();
        }
    }

    private static void gapEverywhere() {
        RodBoard board = addition();
        for (int i = 0; i < 4; i++) {
            for (int row = 0; row < 8; row++) due.is("a gap", board.gap(i, row), 1);
        }
        due.is("all cells", board.told(6), 32);
        due.is("all dark", board.right(0) + board.right(1) + board.right(2), 6);
        due.is("no blame", board.blame(), -6);
        due.is("no mends", board.mend(-1), 0);
        due.is("nothing is told", board.fill(), 0);
        due.is("read", board.read(3, 7), LOST - 6);
        due.is("a cell written", board.write(3, 7, 0), 1);
        due.is("one less", board.told(6), 31);
        board.copy();
        due.is("a new copy has none", board.told(6), 0);
    }

    private static void read() {
        RodBoard board = with(444, -777);
        board.add(0, 1);
        due.is("no copy, ahead of unknown", board.read(9, 9), LOST - 3);
        board.copy();
        due.is("black", board.read(2, 1), -777);
        board.gap(2, 1);
        due.is("gap", board.read(2, 1), LOST - 6);
        due.is("no board", board.read(4, 0), LOST - 1);
        due.is("no board", board.read(-1, 0), LOST - 1);
        due.is("no row", board.read(0, 8), LOST - 1);
        due.is("no row", board.read(0, -1), LOST - 1);
    }

    private static void right() {
        RodBoard board = with(444, 777);
        board.add(0, 1);
        due.is("no copy, ahead of unknown", board.right(9), -3);
        board.copy();
        for (int i = 0; i < 3; i++) due.is("step " + i, board.right(i), 1);
        due.is("no step 3", board.right(3), -1);
        due.is("no step -1", board.right(-1), -1);
        board.write(1, 6, -1);
        due.is("behind is wrong", board.right(0), 0);
        due.is("ahead is wrong", board.right(1), 0);
        due.is("neither", board.right(2), 1);
        board.gap(1, 5);
        due.is("dark behind", board.right(0), 2);
        due.is("dark ahead", board.right(1), 2);
        board = addition();
        for (int i = 0; i < 4; i++) board.write(i, 6, 7);
        for (int i = 0; i < 4; i++) board.write(i, 0, board.read(i, 0) - 1000);
        for (int i = 0; i < 3; i++) due.is("from other numbers " + i, board.right(i), 1);
        board = parting();
        writeBoth(board, 0, -5, -5 - 30 * 7);
        writeBoth(board, 1, 7, 7);
        writeBoth(board, 2, -31, -1);
        due.is("part of other numbers", board.right(0), 1);
        board = root(3);
        writeBoth(board, 0, 500, 500 - 125 + 8);
        writeBoth(board, 1, 2, 5);
        due.is("root of other numbers", board.right(0), 1);
        board = with(3, 4, 9);
        board.times(0, 1, 2);
        board.copy();
        board.write(0, 2, -77);
        due.is("emptied whatever it was", board.right(0), 1);
        board.write(0, 3, -77);
        due.is("but no other row", board.right(0), 0);
    }

    private static void rightInEachRow() {
        for (int row = 0; row < 8; row++) {
            RodBoard board = addition();
            board.write(1, row, board.read(1, row) + 1);
            due.is("behind, row " + row, board.right(0), 0);
            due.is("ahead, row " + row, board.right(1), 0);
            due.is("neither, row " + row, board.right(2), 1);
            due.is("blame, row " + row, board.blame(), 1);
        }
    }

    private static void rightBesideGaps() {
        RodBoard board = addition();
        board.gap(0, 7);
        due.is("the first", board.right(0), 2);
        due.is("beside it", board.right(1), 1);
        board.gap(3, 0);
        due.is("the last", board.right(2), 2);
        due.is("beside it", board.right(1), 1);
        board.write(1, 0, 5);
        due.is("dark is not wrong", board.right(0), 2);
        due.is("wrong", board.right(1), 0);
    }

    private static void walkLeadsNowhere() {
        RodBoard board = addition();
        writeBoth(board, 0, BEYOND - 700, BEYOND - 1);
        due.is("a row to BEYOND", board.right(0), 0);
        writeBoth(board, 0, BEYOND - 701, BEYOND - 1);
        due.is("just below it", board.right(0), 1);
        board = parting();
        writeBoth(board, 1, 33333333333L, 33333333333L);
        writeBoth(board, 0, 600000000000L, 600000000000L - 999999999990L);
        due.is("less by just below BEYOND", board.right(0), 1);
        writeBoth(board, 1, 33333333334L, 33333333334L);
        writeBoth(board, 0, 600000000000L, 600000000000L - 1000000000020L);
        due.is("less by more", board.right(0), 0);
        writeBoth(board, 1, BEYOND - 1, BEYOND - 1);
        due.is("far more", board.right(0), 0);
        board = root(2);
        writeBoth(board, 1, -999999, -999996);
        writeBoth(board, 0, 0, 5999985);
        due.is("powers just below BEYOND", board.right(0), 1);
        writeBoth(board, 1, -1000000, -999997);
        writeBoth(board, 0, 0, 5999991);
        due.is("the old power is BEYOND", board.right(0), 0);
        writeBoth(board, 1, -1000001, -999998);
        writeBoth(board, 0, 0, 5999997);
        due.is("the old power is more", board.right(0), 0);
        writeBoth(board, 1, 999998, 1000001);
        writeBoth(board, 0, 0, -5999997);
        due.is("the new one is", board.right(0), 0);
        writeBoth(board, 1, BEYOND - 4, BEYOND - 1);
        due.is("far more", board.right(0), 0);
        board = root(3);
        writeBoth(board, 1, 9996, 9999);
        writeBoth(board, 0, 0, 9996L * 9996 * 9996 - 9999L * 9999 * 9999);
        due.is("n 3, just below BEYOND", board.right(0), 1);
        writeBoth(board, 1, 9997, 10000);
        writeBoth(board, 0, 0, 9997L * 9997 * 9997 - BEYOND);
        due.is("n 3, BEYOND", board.right(0), 0);
    }

    private static void blame() {
        RodBoard board = with(444, 777);
        due.is("no copy", board.blame(), -3);
        board.add(0, 1);
        board.copy();
        due.is("none", board.blame(), -6);
        board.write(3, 4, 1);
        due.is("the last", board.blame(), 3);
        board.write(1, 0, 1145);
        due.is("the first", board.blame(), 1);
        board.gap(0, 7);
        due.is("not a dark one", board.blame(), 2);
        board.gap(2, 7);
        due.is("all dark", board.blame(), -6);
        board.add(0, 5);
        board.copy();
        due.is("no steps", board.blame(), -6);
    }

    private static void blameOfEachStep() {
        for (int i = 0; i < 4; i++) {
            RodBoard board = addition();
            board.write(i, 7, -1);
            due.is("fault in board " + i, board.blame(), i == 0 ? 1 : i);
        }
        RodBoard board = addition();
        board.gap(1, 3);
        board.write(0, 0, 0);
        due.is("a fault in the dark", board.blame(), -6);
        due.is("has no mends", board.mend(-1), 0);
        due.is("none", board.mend(0), -6);
    }

    private static void mend() {
        RodBoard board = with(5, 3);
        due.is("no copy", board.mend(-1), -3);
        board.add(0, 1);
        board.copy();
        mendsAre("nothing to mend", board);
        board.write(0, 0, 6);
        mendsAre("either board", board, 5, 100009);
        due.is("none ahead", board.mend(-2), -6);
        due.is("far off", board.mend(Integer.MAX_VALUE), -6);
        due.is("far off", board.mend(Integer.MIN_VALUE), -6);
        due.is("trying changes nothing", board.read(0, 0), 6);
        due.is("nor behind", board.read(1, 0), 8);
        board.write(1, 4, 200);
        mendsAre("two rows are wrong", board);
        board.write(0, 0, 5);
        mendsAre("a row that stays", board, 4022, 104020);
        board.write(1, 4, -200);
        mendsAre("an empty cell becomes red", board, 104020);
        board.write(0, 4, -230);
        mendsAre("black stays black", board, 4010, 104013);
        board.write(0, 4, 230);
        mendsAre("not to the other colour", board);
        board.write(0, 4, 0);
        board.write(1, 4, 220);
        mendsAre("two digits are wrong", board);
        board.write(0, 4, 900000000000L);
        board.write(1, 4, 0);
        mendsAre("the highest place", board, 4110, 104119);
    }

    private static void mendOfEachRow() {
        for (int row = 0; row < 8; row++) {
            RodBoard board = addition();
            int ahead = (int) (board.read(1, row) % 10);
            board.write(1, row, board.read(1, row) + 1);
            mendsAre("row " + row, board, 1000 * row + ahead + 1, 100000 + 1000 * row + ahead);
            board = addition();
            board.write(3, row, board.read(3, row) + 1);
            // board 2 was right with board 1
            mendsAre("last board, row " + row, board, 300000 + 1000 * row + (int) (board.board(3, row) % 10));
        }
    }

    private static void mendOfEachPlaceAndDigit() {
        long ten = 1;
        for (int place = 0; place < 12; place++, ten *= 10) {
            RodBoard board = addition();
            board.write(0, 5, ten);
            mendsAre("place " + place, board, 5000 + 10 * place);
        }
        for (int digit = 1; digit <= 9; digit++) {
            RodBoard board = addition();
            board.write(1, 5, digit);
            mendsAre("digit " + digit, board, 5000 + digit, 105000);
        }
        RodBoard board = addition();
        board.write(0, 5, 1 - BEYOND);
        for (int i = 1; i < 4; i++) board.write(i, 5, 1 - BEYOND + BEYOND / 10);
        mendsAre("of the least number", board, 5118);
    }

    private static void mendOfColours() {
        RodBoard board = addition();
        board.write(1, 4, -5);
        mendsAre("a black digit is taken away", board, 104000);
        board.write(0, 4, 5);
        mendsAre("no digit turns the colour", board);
        board.write(0, 4, -6);
        mendsAre("black to black", board, 4005, 104006);
        board.write(0, 4, 0);
        board.write(1, 4, 5);
        mendsAre("an empty cell: red", board, 4005, 104000);
        for (int i = 0; i < 4; i++) board.write(i, 4, -50);
        board.write(0, 4, 0);
        mendsAre("an empty cell: not black", board);
        for (int i = 0; i < 4; i++) board.write(i, 4, -7);
        board.write(0, 4, -1);
        mendsAre("the least that is black", board, 4007);
    }

    private static void mendKeepsWhatWasRight() {
        RodBoard board = addition();
        board.write(2, 0, 1213);
        // board 1 may not be mended to 1143, since step 0 is right; board 2 may, since step 2 is not
        mendsAre("step ahead", board, 200004);
        board = addition();
        board.write(0, 0, 443);
        mendsAre("step behind", board, 4);
        board.write(2, 0, 1215);
        mendsAre("step behind is wrong already", board, 4, 100003);
        board = addition();
        board.gap(0, 7);
        board.write(2, 0, 1213);
        mendsAre("step ahead is dark", board, 100003, 200004);
        board = addition();
        board.gap(2, 7);
        board.write(0, 0, 443);
        mendsAre("step behind is dark", board, 4, 100003);
    }

    /** A dark step was not right, even if it leads to BEYOND where the gap is. */
    private static void mendBesideDark() {
        RodBoard board = addition();
        board.gap(0, 7);
        board.gap(3, 0);
        board.write(1, 0, BEYOND - 83);
        board.write(2, 0, BEYOND - 3);
        mendsAre("dark on both sides", board, 100012, 200018);
    }

    /** Ahead of the first step, and behind the last, there is none that could have been right. */
    private static void mendBesideNothing() {
        RodBoard board = oneStep(1, 7);
        writeBoth(board, 0, 0, 8);
        writeBoth(board, 1, 0, 0);
        mendsAre("board 0 is all empty", board, 1, 100007);
        writeBoth(board, 0, -2, 0);
        mendsAre("the last board is all empty", board, 7, 100005);
    }

    private static void mendOfOtherKinds() {
        RodBoard board = with(2, 3, 9);
        board.times(0, 1, 2);
        board.copy();
        board.write(1, 2, 4);
        mendsAre("emptying", board, 102000);
        board = parting();
        writeBoth(board, 1, 2, 1);
        mendsAre("b of a parting", board, 1001);
        writeBoth(board, 1, 2, 2);
        mendsAre("b of a parting, in both boards", board, 16);
        board = root(2);
        writeBoth(board, 1, 1, 3);
        mendsAre("b of a root", board, 1000);
    }

    private static void fill() {
        RodBoard board = with(444, 777);
        due.is("no copy", board.fill(), -3);
        board = addition();
        due.is("no gaps", board.fill(), 0);
        for (int row = 0; row < 8; row++) board.gap(1, row);
        board.gap(2, 0);
        board.gap(3, 1);
        due.is("one behind the other", board.fill(), 10);
        due.is("told", board.read(1, 0), 1144);
        due.is("told", board.read(2, 0), 1214);
        due.is("told", board.read(3, 1), 777);
        due.is("none left", board.told(6), 0);
        due.is("again", board.fill(), 0);
        board.write(0, 0, -444);
        board.gap(1, 0);
        due.is("from what is written", board.fill(), 1);
        due.is("by the note", board.read(1, 0), 256);
    }

    private static void fillNot() {
        RodBoard board = addition();
        board.gap(0, 3);
        board.gap(1, 3);
        due.is("a gap ahead", board.fill(), 0);
        due.is("both stay", board.told(6), 2);
        board = addition();
        board.gap(2, 0);
        board.write(2, 4, 1);
        board.gap(3, 0);
        due.is("the rest does not agree", board.fill(), 0);
        board.write(2, 4, 0);
        due.is("now it does", board.fill(), 2);
        board = addition();
        board.write(0, 0, BEYOND - 1);
        board.gap(1, 0);
        due.is("it leads nowhere", board.fill(), 0);
        board = addition();
        board.gap(1, 0);
        board.write(1, 5, 1);
        board.gap(3, 0);
        due.is("a later board all the same", board.fill(), 1);
        due.is("gap stays", board.read(1, 0), LOST - 6);
        due.is("told", board.read(3, 0), 1221);
    }

    private static void mendOfTwoFaults() {
        RodBoard board = parting();
        writeBoth(board, 1, 2, 1);
        board.write(1, 0, 5);
        mendsAre("b and a of a parting", board);
        board.write(1, 0, -30);
        mendsAre("b alone, the other way", board, 101002);
        board = root(2);
        writeBoth(board, 1, 1, 3);
        board.write(1, 0, 5);
        mendsAre("b and a of a root", board);
        board.write(1, 0, 0);
        board.write(0, 6, 1);
        mendsAre("b of a root and another row", board);
    }

    private static void fillOfTheLongest() {
        RodBoard board = with(1111111, 111111, 8);
        board.times(0, 1, 2);
        board.copy();
        for (int i = 1; i < 44; i++) {
            for (int row = 0; row < 8; row++) board.gap(i, row);
        }
        due.is("gaps", board.told(6), 344);
        due.is("all are filled", board.fill(), 344);
        due.is("none is left", board.told(6), 0);
        due.is("the last", board.read(43, 2), 123456654321L);
    }

    private static void fillAgreesInEachRow() {
        for (int row = 0; row < 8; row++) {
            int other = row == 3 ? 4 : 3;
            RodBoard board = addition();
            board.gap(1, other);
            board.write(1, row, board.read(1, row) - 1);
            due.is("row " + row + " does not agree", board.fill(), 0);
            due.is("it stays a gap", board.read(1, other), LOST - 6);
            board.write(1, row, board.read(1, row) + 1);
            due.is("row " + row + " agrees", board.fill(), 1);
            board.gap(1, row);
            due.is("row " + row + " is a gap", board.fill(), 1);
        }
    }

    private static void fillNotOfBoard0() {
        RodBoard board = addition();
        board.gap(0, 5);
        board.gap(1, 0);
        due.is("nor of what hangs on it", board.fill(), 0);
        board.gap(3, 0);
        due.is("only behind", board.fill(), 1);
        due.is("two stay", board.told(6), 2);
        board.write(0, 5, 0);
        due.is("till it is written", board.fill(), 1);
        board.add(0, 6);
        board.copy();
        board.gap(0, 0);
        due.is("there is no board 1", board.fill(), 0);
    }

    /** All of BOARD 1 gaps, and BOARD 0 as told: whether WALK leads on from it. */
    private static void fills(String what, boolean leadsOn, RodBoard board, long... ahead) {
        for (int row = 0; row < ahead.length; row++) board.write(0, row, ahead[row]);
        for (int row = 0; row < 8; row++) board.gap(1, row);
        due.is(what, board.fill(), leadsOn ? 8 : 0);
        due.is(what + ", gaps left", board.told(6), leadsOn ? 0 : 8);
    }

    private static void becomes(RodBoard board, int row, long v) {
        due.is("row " + row + " behind the step", board.read(1, row), v);
    }

    private static RodBoard oneStep(int a, int b) {
        RodBoard board = with(a, b);
        board.add(0, 1);
        board.copy();
        return board;
    }

    private static void fillAdding() {
        RodBoard board = oneStep(1, 700);
        fills("just below BEYOND", true, board, BEYOND - 701);
        becomes(board, 0, BEYOND - 1);
        fills("to BEYOND", false, oneStep(1, 700), BEYOND - 700);
        fills("above it", false, oneStep(1, 700), BEYOND - 1);
        board = oneStep(1, -700);
        fills("just above -BEYOND", true, board, 701 - BEYOND);
        becomes(board, 0, 1 - BEYOND);
        fills("to -BEYOND", false, oneStep(1, -700), 700 - BEYOND);
        fills("below it", false, oneStep(1, -700), 1 - BEYOND);
    }

    private static RodBoard product(int a, int b) {
        RodBoard board = with(a, b);
        board.times(0, 1, 2);
        board.copy();
        return board;
    }

    private static void fillTimes() {
        RodBoard board = product(3, 4);
        fills("just below BEYOND", true, board, 3, 4, BEYOND - 13);
        becomes(board, 2, BEYOND - 1);
        fills("to BEYOND", false, product(3, 4), 3, 4, BEYOND - 12);
        board = product(3, -4);
        fills("just above -BEYOND", true, board, 3, 4, 13 - BEYOND);
        becomes(board, 2, 1 - BEYOND);
        fills("to -BEYOND", false, product(3, -4), 3, 4, 12 - BEYOND);
        board = product(3, 4);
        fills("a and b do not matter", true, board, BEYOND - 1, BEYOND - 1, 5);
        becomes(board, 2, 17);
    }

    /** DIGIT 3 at PLACE 1: c is more by 30, a less by 30 times b. */
    private static void fillParting() {
        RodBoard board = parting();
        fills("c just below BEYOND", true, board, 0, 1, BEYOND - 31);
        becomes(board, 2, BEYOND - 1);
        fills("c to BEYOND", false, parting(), 0, 1, BEYOND - 30);
        board = parting();
        fills("a just above -BEYOND", true, board, 31 - BEYOND, 1, 0);
        becomes(board, 0, 1 - BEYOND);
        fills("a to -BEYOND", false, parting(), 30 - BEYOND, 1, 0);
        board = parting();
        fills("a just below BEYOND", true, board, BEYOND - 31, -1, 0);
        becomes(board, 0, BEYOND - 1);
        fills("a to BEYOND", false, parting(), BEYOND - 30, -1, 0);
        board = parting();
        fills("less by just below BEYOND", true, board, 600000000000L, 33333333333L, 0);
        becomes(board, 0, 600000000000L - 999999999990L);
        fills("less by more", false, parting(), 600000000000L, 33333333334L, 0);
        board = parting();
        fills("more by just below BEYOND", true, board, -600000000000L, -33333333333L, 0);
        becomes(board, 0, 999999999990L - 600000000000L);
        fills("more by more", false, parting(), -600000000000L, -33333333334L, 0);
        fills("more by far more", false, parting(), -600000000000L, 1 - BEYOND, 0);
        board = parting();
        fills("nothing less, as b is empty", true, board, 30, 0, 0);
        becomes(board, 0, 30);
        becomes(board, 2, 30);
    }

    /** DIGIT 3 at PLACE 0: b is more by 3, a less by the new power and more by the old one. */
    private static void fillRoots() {
        RodBoard board = root(2);
        fills("a just above -BEYOND", true, board, 22 - BEYOND, 2);
        becomes(board, 0, 1 - BEYOND);
        fills("a to -BEYOND", false, root(2), 21 - BEYOND, 2);
        board = root(2);
        fills("a just below BEYOND", true, board, BEYOND - 22, -5);
        becomes(board, 0, BEYOND - 1);
        fills("a to BEYOND", false, root(2), BEYOND - 21, -5);
        fills("new square just below BEYOND", true, root(2), 0, 999996);
        fills("new square BEYOND", false, root(2), 0, 999997);
        fills("old square just below BEYOND", true, root(2), 0, -999999);
        fills("old square BEYOND", false, root(2), 0, -1000000);
        fills("squares far beyond", false, root(2), 0, BEYOND - 1);
        fills("squares far beyond, black", false, root(2), 0, 1 - BEYOND);
        board = root(3);
        fills("cubes", true, board, 0, -1);
        becomes(board, 0, -9);
        fills("new cube just below BEYOND", true, root(3), 0, 9996);
        fills("new cube BEYOND", false, root(3), 0, 9997);
        fills("old cube just above -BEYOND", true, root(3), 0, -9999);
        fills("old cube -BEYOND", false, root(3), 0, -10000);
        fills("cubes far beyond", false, root(3), 0, BEYOND - 1);
        fills("a far below with it", false, root(3), 1 - BEYOND, 9996);
    }

    private static void fillEmptying() {
        RodBoard board = with(2, 3, 9);
        board.times(0, 1, 2);
        board.copy();
        fills("whatever it was", true, board, BEYOND - 1, 1 - BEYOND, BEYOND - 1);
        becomes(board, 2, 0);
        becomes(board, 1, 1 - BEYOND);
    }
}
