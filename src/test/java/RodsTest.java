/** Promises 1 to 10: a new object, rods in rows, the strip and its readings. */
public final class RodsTest {
    private static final long LOST = -1000000000000000L;
    private static final long BEYOND = 1000000000000L;
    private static final Due due = new Due("RodsTest");

    public static void main(String[] args) {
        newObject();
        newObjectHasNoBoards();
        newObjectHasEmptyRows();
        lay();
        layLeastNumbers();
        layOverAnother();
        layTouchesNothingElse();
        number();
        sticks();
        sticksOfFullRow();
        aboutAllRows();
        about();
        aboutOnePlace();
        group();
        groupEdges();
        groupBehindFull();
        strip();
        stripOfFullStrip();
        wipe();
        wipeOfFullStrip();
        readings();
        readingsOfLeftmost();
        reading();
        readingsInOrder();
        readingAtEachEdge();
        due.end();
    }

    private static RodBoard with(long v) {
        RodBoard board = new RodBoard();
        board.lay(0, v);
        return board;
    }

    private static void newObject() {
        RodBoard board = new RodBoard();
        for (int row = 0; row < 8; row++) due.is("number", board.number(row), 0);
        due.is("readings", board.readings(), 1);
        due.is("boards", board.boards(), 0);
        due.is("copy", board.copy(), -3);
        due.is("blame", board.blame(), -3);
        int[] told = {0, 0, 0, 1, 1, 0, 0, 0};
        for (int what = 0; what < told.length; what++) due.is("told " + what, board.told(what), told[what]);
        due.is("number 0 of the one unknown", board.set(0, 0, 0), 0);
        due.is("what it comes to", board.set(0, 1, 0), 0);
        due.is("no second unknown", board.set(0, 2, 0), -100001);
        due.is("no second column", board.set(1, 0, 0), -100001);
        due.is("kind", board.kind(), 2);
        due.is("free", board.free(0), 1);
        due.is("joined", board.joined(0), 0);
        due.is("all go into", board.joined(1), 1);
    }

    private static void newObjectHasNoBoards() {
        RodBoard board = new RodBoard();
        due.is("board", board.board(0, 0), LOST - 1);
        due.is("note", board.note(0, 0), -101);
        due.is("read", board.read(0, 0), LOST - 3);
        due.is("write", board.write(0, 0, 1), -3);
        due.is("gap", board.gap(0, 0), -3);
        due.is("right", board.right(0), -3);
        due.is("mend", board.mend(-1), -3);
        due.is("fill", board.fill(), -3);
    }

    private static void newObjectHasEmptyRows() {
        RodBoard board = new RodBoard();
        for (int row = 0; row < 8; row++) {
            for (int place = 0; place < 12; place++) due.is("sticks", board.sticks(row, place), 0);
            due.is("colour", board.about(row, 0), 0);
        }
        due.is("the one reading", board.reading(0), 0);
        due.is("no groups", board.wipe(), 0);
        due.is("no counts", board.drop(), 0);
        due.is("no turns", board.turns(), 0);
        due.is("cleared", board.cleared(0, 0) + board.cleared(0, 1), 0);
        due.is("no one answer", board.answer(0, 0), LOST - 3);
        due.is("no second unknown", board.free(1), -1);
    }

    private static void lay() {
        RodBoard board = new RodBoard();
        due.is("red", board.lay(0, 60), 1);
        due.is("black", board.lay(7, -60), 2);
        due.is("empty", board.lay(0, 0), 0);
        due.is("greatest", board.lay(3, BEYOND - 1), 1);
        due.is("least", board.lay(4, 1 - BEYOND), 2);
        due.is("BEYOND", board.lay(3, BEYOND), -2);
        due.is("below -BEYOND", board.lay(4, -BEYOND), -2);
        due.is("least long", board.lay(4, Long.MIN_VALUE), -2);
        due.is("greatest long", board.lay(4, Long.MAX_VALUE), -2);
        due.is("no row 8", board.lay(8, 1), -1);
        due.is("no row ahead of too much", board.lay(-1, BEYOND), -1);
        due.is("refused changed nothing", board.number(3), BEYOND - 1);
        due.is("refused changed nothing", board.number(4), 1 - BEYOND);
        due.is("laid row", board.number(7), -60);
    }

    private static void layLeastNumbers() {
        RodBoard board = new RodBoard();
        due.is("one red stick", board.lay(0, 1), 1);
        due.is("one black stick", board.lay(1, -1), 2);
        due.is("no colour", board.about(2, 0), 0);
        due.is("colour", board.about(0, 0), 1);
        due.is("colour", board.about(1, 0), 2);
    }

    private static void layOverAnother() {
        RodBoard board = with(BEYOND - 1);
        due.is("black over red", board.lay(0, -7), 2);
        due.is("nothing of it is left", board.number(0), -7);
        due.is("nor of its sticks", board.about(0, 1), 7);
        due.is("taken away", board.lay(0, 0), 0);
        due.is("empty", board.number(0), 0);
    }

    private static void layTouchesNothingElse() {
        RodBoard board = with(305);
        board.strip(0);
        board.add(0, 1);
        board.copy();
        board.lay(0, 77);
        due.is("the strip", board.readings(), 15);
        due.is("the boards", board.board(0, 0), 305);
        due.is("the copy", board.read(0, 0), 305);
        for (int row = 1; row < 8; row++) due.is("row " + row, board.number(row), 0);
    }

    private static void number() {
        RodBoard board = with(-907);
        due.is("number", board.number(0), -907);
        due.is("other row", board.number(1), 0);
        due.is("no row 8", board.number(8), LOST - 1);
        due.is("no row -1", board.number(-1), LOST - 1);
    }

    private static void sticks() {
        RodBoard board = with(-120340000567L);
        int[] sticks = {7, 16, 5, 0, 0, 0, 0, 14, 3, 0, 2, 11};
        for (int place = 0; place < 12; place++) due.is("place " + place, board.sticks(0, place), sticks[place]);
        due.is("empty row", board.sticks(1, 0), 0);
        due.is("no place 12", board.sticks(0, 12), -1);
        due.is("no place -1", board.sticks(0, -1), -1);
        due.is("no row", board.sticks(8, 0), -1);
        due.is("no row -1", board.sticks(-1, 0), -1);
    }

    private static void sticksOfFullRow() {
        RodBoard board = with(1 - BEYOND);
        for (int place = 0; place < 12; place++) due.is("nine", board.sticks(0, place), place % 2 == 0 ? 9 : 19);
        board.lay(7, BEYOND / 10);
        due.is("one at the highest", board.sticks(7, 11), 11);
        due.is("none below it", board.sticks(7, 10), 0);
        board.lay(7, 1);
        due.is("one at the lowest", board.sticks(7, 0), 1);
        due.is("no place 12 of it", board.sticks(7, 12), -1);
    }

    private static void aboutAllRows() {
        RodBoard board = new RodBoard();
        for (int row = 0; row < 8; row++) board.lay(row, -10 - row);
        for (int row = 0; row < 8; row++) due.is("sticks of " + row, board.about(row, 1), 1 + row);
        due.is("no row -1", board.about(-1, 1), -1);
        due.is("no row 8", board.about(8, 1), -1);
    }

    private static void about() {
        RodBoard board = with(-4007010);
        due.is("colour", board.about(0, 0), 2);
        due.is("sticks", board.about(0, 1), 12);
        due.is("highest", board.about(0, 2), 6);
        due.is("empty below it", board.about(0, 3), 4);
        for (int what = 0; what < 4; what++) due.is("empty row " + what, board.about(1, what), what == 2 ? -6 : 0);
        board.lay(2, BEYOND - 1);
        due.is("red", board.about(2, 0), 1);
        due.is("most sticks", board.about(2, 1), 108);
        due.is("highest of all", board.about(2, 2), 11);
        due.is("none empty", board.about(2, 3), 0);
        board.lay(2, 7);
        due.is("highest is the lowest", board.about(2, 2), 0);
        due.is("what 4", board.about(0, 4), -2);
        due.is("what -1", board.about(0, -1), -2);
        due.is("no row ahead of what", board.about(8, 4), -1);
        due.is("no row", board.about(-1, 0), -1);
    }

    private static void aboutOnePlace() {
        RodBoard board = with(BEYOND / 10);
        due.is("highest", board.about(0, 2), 11);
        due.is("all below are empty", board.about(0, 3), 11);
        due.is("one stick", board.about(0, 1), 1);
        board.lay(0, -1);
        due.is("lowest", board.about(0, 2), 0);
        due.is("none below", board.about(0, 3), 0);
        due.is("one black stick", board.about(0, 1), 1);
    }

    private static void group() {
        RodBoard board = new RodBoard();
        due.is("no sticks", board.group(0, 0), -2);
        due.is("ten sticks", board.group(10, 0), -2);
        due.is("way -1", board.group(1, -1), -2);
        due.is("way 2", board.group(1, 2), -2);
        due.is("told", board.told(0), 0);
        for (int i = 1; i <= 12; i++) due.is("group " + i, board.group(i % 9 + 1, i % 2), i);
        due.is("thirteenth", board.group(1, 0), -4);
        due.is("outside ahead of full", board.group(0, 0), -2);
        due.is("told", board.told(0), 12);
        due.is("one reading fills all places", board.readings(), 1);
        due.is("it", board.reading(0), 234567891234L);
    }

    private static void groupEdges() {
        RodBoard board = new RodBoard();
        due.is("one stick, lying", board.group(1, 1), 1);
        due.is("nine sticks, upright", board.group(9, 0), 2);
        due.is("least reading", board.reading(0), 19);
        due.is("no sticks", board.group(0, 1), -2);
        due.is("ten sticks", board.group(10, 1), -2);
        due.is("refused are not seen", board.reading(0), 19);
    }

    private static void groupBehindFull() {
        RodBoard board = with(BEYOND - 1);
        due.is("filled by a row", board.strip(0), 12);
        due.is("no more", board.group(1, 0), -4);
        due.is("the strip stays", board.reading(0), BEYOND - 1);
        board.wipe();
        due.is("begun anew", board.group(1, 0), 1);
    }

    private static void strip() {
        RodBoard board = with(-30000705);
        board.group(1, 0);
        due.is("groups of a black row", board.strip(0), 3);
        due.is("told", board.told(0), 3);
        // 3 lies at place 7, the others stand
        due.is("a group more", board.group(9, 0), 4);
        due.is("least reading", board.reading(0), 370509);
        due.is("no row 8", board.strip(8), -1);
        due.is("no row -1", board.strip(-1), -1);
        due.is("still there", board.told(0), 4);
        due.is("empty row", board.strip(1), 0);
        due.is("emptied", board.told(0), 0);
        board.lay(1, BEYOND - 1);
        due.is("all places", board.strip(1), 12);
        due.is("of one number", board.readings(), 1);
    }

    private static void stripOfFullStrip() {
        RodBoard board = with(-60);
        for (int i = 0; i < 12; i++) board.group(1, (i + 1) % 2);
        due.is("full", board.told(0), 12);
        due.is("becomes one group", board.strip(0), 1);
        due.is("lying, of no colour", board.reading(0), 60);
        due.is("of six readings", board.readings(), 6);
    }

    private static void wipe() {
        RodBoard board = with(4321);
        due.is("none", board.wipe(), 0);
        board.strip(0);
        due.is("four", board.wipe(), 4);
        due.is("gone", board.told(0), 0);
        due.is("again", board.wipe(), 0);
        due.is("rows stay", board.number(0), 4321);
    }

    private static void wipeOfFullStrip() {
        RodBoard board = new RodBoard();
        for (int i = 0; i < 12; i++) board.group(1, i % 2);
        due.is("twelve", board.wipe(), 12);
        due.is("none", board.wipe(), 0);
        due.is("of no groups", board.readings(), 1);
        due.is("the number 0", board.reading(0), 0);
    }

    private static void readings() {
        RodBoard board = new RodBoard();
        due.is("no groups", board.readings(), 1);
        board.group(5, 0);
        due.is("one upright", board.readings(), 6);
        board.group(5, 1);
        // upright at 2 .. 10 with 1 .. 5 lying places below
        due.is("and one lying", board.readings(), 15);
        board.wipe();
        for (int i = 0; i < 6; i++) board.group(1, 1);
        due.is("six lying", board.readings(), 1);
        due.is("it", board.reading(0), 101010101010L);
        board.group(1, 1);
        due.is("seven lying find no place", board.readings(), 0);
        due.is("none of them", board.reading(0), LOST - 6);
        board.wipe();
        for (int i = 0; i < 12; i++) board.group(1, i % 2);
        due.is("upright may not be leftmost of twelve", board.readings(), 0);
    }

    private static void reading() {
        RodBoard board = new RodBoard();
        due.is("no groups", board.reading(0), 0);
        due.is("no second", board.reading(1), LOST - 6);
        due.is("none ahead", board.reading(-1), LOST - 6);
        board.group(7, 0);
        long want = 7;
        for (int i = 0; i < 6; i++, want *= 100) due.is("upright " + i, board.reading(i), want);
        due.is("no seventh", board.reading(6), LOST - 6);
        board.group(2, 1);
        long[] first = {720, 70020, 72000, 7000020, 7002000, 7200000};
        for (int i = 0; i < first.length; i++) due.is("two " + i, board.reading(i), first[i]);
        due.is("last", board.reading(14), 72000000000L);
        due.is("far off", board.reading(Integer.MAX_VALUE), LOST - 6);
        due.is("far off", board.reading(Integer.MIN_VALUE), LOST - 6);
    }

    /** A group on the left must leave enough places to its right for all others. */
    private static void readingsOfLeftmost() {
        RodBoard board = new RodBoard();
        for (int i = 0; i < 6; i++) board.group(2, 0);
        due.is("six upright", board.readings(), 1);
        due.is("it", board.reading(0), 20202020202L);
        board.group(3, 1);
        due.is("nothing lies to the right of the ones", board.readings(), 0);
        due.is("none", board.reading(0), LOST - 6);
        board.wipe();
        for (int i = 0; i < 11; i++) board.group(1, i % 2);
        due.is("eleven by turns, upright first", board.readings(), 1);
        due.is("it", board.reading(0), 11111111111L);
        board.wipe();
        for (int i = 0; i < 11; i++) board.group(1, (i + 1) % 2);
        due.is("eleven by turns, lying first", board.readings(), 1);
        due.is("it", board.reading(0), 111111111110L);
    }

    /** Each reading shows the same strip again, and is more than the one ahead of it. */
    private static void readingsInOrder() {
        for (long v : new long[] {5, 40, 705, 31, 9020, 1234, 60606, 7000, 908070605L, 123456789012L}) {
            RodBoard board = with(v);
            int groups = board.strip(0);
            int all = board.readings();
            long ahead = 0;
            boolean found = false;
            for (int i = 0; i < all; i++) {
                long reading = board.reading(i);
                board.lay(1, reading);
                if (reading <= ahead) due.is("reading " + i + " of " + v + " is more", reading, ahead + 1);
                due.is("sticks of it", board.about(1, 1), board.about(0, 1));
                found |= reading == v;
                ahead = reading;
                RodBoard again = with(reading);
                due.is("groups of it", again.strip(0), groups);
                due.is("readings of it", again.readings(), all);
                due.is("reading of it", again.reading(i), reading);
            }
            due.is("the number is one of them", found ? 1 : 0, 1);
        }
    }

    private static void readingAtEachEdge() {
        RodBoard board = with(31);
        board.strip(0);
        due.is("how many", board.readings(), 21);
        due.is("first", board.reading(0), 31);
        due.is("last", board.reading(20), 310000000000L);
        due.is("behind the last", board.reading(21), LOST - 6);
        due.is("ahead of the first", board.reading(-1), LOST - 6);
    }
}
