/**
 * Numbers laid in rods on a board of eight rows, and what is worked with them.
 * The document of promises says what every call answers; README.md tells how to use it.
 */
public final class RodBoard {
    public static final int NONE = -6, UNKNOWN = -1, OUTSIDE = -2, STATE = -3, FULL = -4, NO = -5;
    public static final long LOST = -1000000000000000L, BEYOND = 1000000000000L;

    private static final int ROWS = 8;
    private static final int PLACES = 12;

    private static final int ADDING = 0;
    private static final int MULTIPLYING = 1;
    private static final int PARTING = 2;
    private static final int SQUARE_ROOT = 3;
    private static final int CUBE_ROOT = 4;
    private static final int EMPTYING = 5;

    private static final int MOST_UNKNOWNS = 4;
    private static final int MOST_COLUMNS = 5;
    private static final int MOST_NUMBER = 50;
    private static final int MOST_TOTAL = 9999;
    private static final int MOST_BY = 1000;
    private static final int MOST_IN_PROBLEM = 1000000;

    private final Working working = new Working();
    private final Strip groups = new Strip();
    private final Clerk clerk = new Clerk();
    private final Clearing clearing = new Clearing();
    private final Counts counts = new Counts();

    public RodBoard() {
        clearing.begin(1, 1);
    }

    // ---- 1 rods

    public int lay(int row, long v) {
        if (!isRow(row)) return UNKNOWN;
        if (Rods.isBeyond(v)) return OUTSIDE;
        working.hold(row, v);
        return Rods.colour(v);
    }

    public long number(int row) {
        return isRow(row) ? working.held(row) : LOST + UNKNOWN;
    }

    public int sticks(int row, int place) {
        if (!isRow(row) || place < 0 || place >= PLACES) return UNKNOWN;
        int digit = Rods.digit(working.held(row), place);
        return digit == 0 ? 0 : 10 * Rods.way(place) + digit;
    }

    public int about(int row, int what) {
        if (!isRow(row)) return UNKNOWN;
        long v = working.held(row);
        switch (what) {
            case 0: return Rods.colour(v);
            case 1: return Rods.allSticks(v);
            case 2: return Rods.highestPlace(v);
            case 3: return Rods.emptyPlaces(v);
            default: return OUTSIDE;
        }
    }

    public int group(int sticks, int way) {
        if (sticks < 1 || sticks > 9 || way < 0 || way > 1) return OUTSIDE;
        if (groups.size() >= PLACES) return FULL;
        groups.append(sticks, way);
        return groups.size();
    }

    public int strip(int row) {
        if (!isRow(row)) return UNKNOWN;
        groups.show(working.held(row));
        return groups.size();
    }

    public int wipe() {
        int were = groups.size();
        groups.clear();
        return were;
    }

    public int readings() {
        return groups.countReadings();
    }

    public long reading(int i) {
        return groups.findReading(i);
    }

    // ---- 2 workings

    public int add(int a, int b) {
        if (!isRow(a) || !isRow(b)) return UNKNOWN;
        // Every step goes the same way, so that the last board is the furthest that a comes.
        if (Rods.isBeyond(working.held(a) + working.held(b))) return FULL;
        clerk.forget();
        return working.addRows(a, b);
    }

    public int times(int a, int b, int c) {
        if (!isRow(a) || !isRow(b) || !isRow(c)) return UNKNOWN;
        if (a == b || a == c || b == c) return STATE;
        // Here, too, c only grows in size: what it comes to at last tells.
        if (Rods.product(working.held(a), working.held(b)) == LOST) return FULL;
        clerk.forget();
        return working.multiplyRows(a, b, c);
    }

    public int part(int a, int b, int c) {
        if (!isRow(a) || !isRow(b) || !isRow(c)) return UNKNOWN;
        if (a == b || a == c || b == c) return STATE;
        if (working.held(a) < 0 || working.held(b) <= 0) return NO;
        clerk.forget();
        return working.partRows(a, b, c);
    }

    public int root(int a, int b, int n) {
        if (!isRow(a) || !isRow(b)) return UNKNOWN;
        if (n != 2 && n != 3) return OUTSIDE;
        if (a == b) return STATE;
        if (working.held(a) < 0) return NO;
        clerk.forget();
        return working.rootRow(a, b, n);
    }

    public int boards() {
        return working.course.size();
    }

    public long board(int i, int row) {
        return working.course.has(i, row) ? working.course.cell(i, row) : LOST + UNKNOWN;
    }

    public int note(int i, int what) {
        if (i < 0 || i >= working.course.steps()) return -100 + UNKNOWN;
        if (what < 0 || what >= Course.PARTS) return -100 + OUTSIDE;
        return working.course.noted(i, what);
    }

    // ---- 3 copies

    public int copy() {
        if (working.course.size() == 0) return STATE;
        clerk.copyFrom(working.course);
        return clerk.course.size() * ROWS;
    }

    public int write(int i, int row, long v) {
        if (!clerk.hasCopy()) return STATE;
        if (!clerk.course.has(i, row)) return UNKNOWN;
        if (Rods.isBeyond(v)) return OUTSIDE;
        return clerk.change(i, row, v);
    }

    public int gap(int i, int row) {
        if (!clerk.hasCopy()) return STATE;
        if (!clerk.course.has(i, row)) return UNKNOWN;
        return clerk.change(i, row, Clerk.GAP);
    }

    public long read(int i, int row) {
        if (!clerk.hasCopy()) return LOST + STATE;
        if (!clerk.course.has(i, row)) return LOST + UNKNOWN;
        long v = clerk.course.cell(i, row);
        return v == Clerk.GAP ? LOST + NONE : v;
    }

    public int right(int i) {
        if (!clerk.hasCopy()) return STATE;
        if (i < 0 || i >= clerk.course.steps()) return UNKNOWN;
        if (clerk.isDark(i)) return 2;
        return clerk.isRight(i) ? 1 : 0;
    }

    public int blame() {
        return clerk.hasCopy() ? clerk.blamed() : STATE;
    }

    public int mend(int i) {
        return clerk.hasCopy() ? clerk.findMend(i) : STATE;
    }

    public int fill() {
        return clerk.hasCopy() ? clerk.fillGaps() : STATE;
    }

    // ---- 4 unknowns

    public int unknowns(int n, int m) {
        if (n < 1 || n > MOST_UNKNOWNS || m < 1 || m > MOST_COLUMNS) return OUTSIDE;
        clearing.begin(n, m);
        return 1;
    }

    public int set(int column, int k, int v) {
        if (!clearing.has(column, k)) return -100000 + UNKNOWN;
        int most = k == clearing.n ? MOST_TOTAL : MOST_NUMBER;
        if (v < -most || v > most) return -100000 + OUTSIDE;
        return clearing.exchangeGiven(column, k, v);
    }

    public int kind() {
        clearing.clear();
        return clearing.kindOfAnswer();
    }

    public int turns() {
        clearing.clear();
        return clearing.turnsTaken;
    }

    public long cleared(int column, int k) {
        if (!clearing.has(column, k)) return LOST + UNKNOWN;
        clearing.clear();
        return clearing.cell(column, k);
    }

    public long answer(int k, int part) {
        if (!clearing.isUnknown(k)) return LOST + UNKNOWN;
        if (part < 0 || part > 1) return LOST + OUTSIDE;
        clearing.clear();
        if (clearing.kindOfAnswer() != 1) return LOST + STATE;
        return clearing.fraction(k, part);
    }

    public int free(int k) {
        if (!clearing.isUnknown(k)) return UNKNOWN;
        clearing.clear();
        return clearing.isFree(k) ? 1 : 0;
    }

    // ---- 5 counts

    public int count(int by, int left) {
        if (by < 2 || by > MOST_BY || left < 0 || left >= by) return OUTSIDE;
        if (counts.isFull()) return FULL;
        counts.append(by, left);
        return counts.size();
    }

    public int drop() {
        int were = counts.size();
        counts.clear();
        return were;
    }

    public long joined(int what) {
        if (what < 0 || what > 1) return LOST + OUTSIDE;
        // Both numbers are what the counts come to as one: with a clash there is neither.
        if (counts.firstClash() != NONE) return LOST + NO;
        return what == 0 ? counts.leastLeavingAll() : counts.allGoInto();
    }

    public int clash() {
        return counts.firstClash();
    }

    public int seek(int a, int m, int what) {
        if (m < 2 || m > MOST_BY || a < 1 || a >= m || what < 0 || what > 2) return OUTSIDE;
        return Counts.seekOne(a, m, what);
    }

    // ---- 6 problems

    public long problem(int kind, int x, int y, int z, int w, int part) {
        if (kind < 0 || kind > 5 || part < 0 || part > 1) return LOST + OUTSIDE;
        if (!Problems.isTold(x) || !Problems.isTold(y)) return LOST + OUTSIDE;
        if (!Problems.isTold(z) || !Problems.isTold(w)) return LOST + OUTSIDE;
        switch (kind) {
            case 0: return part == 0 ? (long) x * y : 0L;
            case 1: return Problems.shared(x, y, part);
            case 2: return Problems.side(x, part);
            case 3: return Problems.birdsAndBeasts(x, y, z, part);
            case 4: return Problems.leftByThreeFiveSeven(x, y, z, part);
            default: return Problems.boughtTogether(x, y, z, w, part);
        }
    }

    public int told(int what) {
        switch (what) {
            case 0: return groups.size();
            case 1: return working.course.steps();
            case 2: return clerk.hasCopy() ? 1 : 0;
            case 3: return clearing.n;
            case 4: return clearing.m;
            case 5: return counts.size();
            case 6: return clerk.allGaps();
            case 7: return working.allSticks();
            default: return OUTSIDE;
        }
    }

    private static boolean isRow(int row) {
        return row >= 0 && row < ROWS;
    }

    /** What numbers look like in rods, and the sums that all parts of the board share. */
    private static final class Rods {
        private static final long[] TENS = {
            1L, 10L, 100L, 1000L, 10000L, 100000L, 1000000L, 10000000L, 100000000L,
            1000000000L, 10000000000L, 100000000000L
        };

        /** Far above what Euclid's way needs for any two longs. */
        private static final int MOST_DIVISIONS = 1000;

        /** Ten to the place; 0, if there is no such place. */
        static long tenTo(int place) {
            return place >= 0 && place < TENS.length ? TENS[place] : 0L;
        }

        static boolean isBeyond(long v) {
            return v <= -BEYOND || v >= BEYOND;
        }

        static int colour(long v) {
            if (v == 0) return 0;
            return v > 0 ? 1 : 2;
        }

        static int way(int place) {
            return place & 1;
        }

        static int digit(long v, int place) {
            long ten = tenTo(place);
            return ten == 0 ? 0 : (int) (Math.abs(v) / ten % 10);
        }

        /** The number with another digit at the place, in the colour that it had. */
        static long withDigit(long v, int place, int digit) {
            long more = (digit - digit(v, place)) * tenTo(place);
            return v < 0 ? v - more : v + more;
        }

        static int allSticks(long v) {
            int all = 0;
            for (int place = 0; place < PLACES; place++) all += digit(v, place);
            return all;
        }

        static int highestPlace(long v) {
            for (int place = PLACES - 1; place >= 0; place--) {
                if (digit(v, place) != 0) return place;
            }
            return NONE;
        }

        /** How many places below the highest one are empty. */
        static int emptyPlaces(long v) {
            int empty = 0;
            int highest = highestPlace(v);
            for (int place = 0; place < highest; place++) {
                if (digit(v, place) == 0) empty++;
            }
            return empty;
        }

        /** x times y; LOST, if that is BEYOND in size. Both are less than it. */
        static long product(long x, long y) {
            long sizeOfY = Math.abs(y);
            if (sizeOfY == 0) return 0L;
            return Math.abs(x) > (BEYOND - 1) / sizeOfY ? LOST : x * y;
        }

        /** Base to the n (2 or 3); LOST, if that is BEYOND in size. */
        static long power(long base, int n) {
            long tooMuch = n == 2 ? 1000000L : 10000L;
            if (base <= -tooMuch || base >= tooMuch) return LOST;
            return n == 2 ? base * base : base * base * base;
        }

        /** The greatest number that parts both, 0 for two zeros. */
        static long greatestPart(long x, long y) {
            long a = Math.abs(x);
            long b = Math.abs(y);
            for (int i = 0; i < MOST_DIVISIONS && b != 0; i++) {
                long rest = a % b;
                a = b;
                b = rest;
            }
            return a;
        }
    }

    /** A strip of groups of sticks, seen without places, and the numbers that it may mean. */
    private static final class Strip {
        private final int[] sizes = new int[PLACES];
        private final int[] ways = new int[PLACES];
        /** For each group and limit: in how many ways the groups from it on lie below the limit. */
        private final int[] layouts = new int[(PLACES + 1) * (PLACES + 1)];
        private int used;

        int size() {
            return used;
        }

        void clear() {
            used = 0;
        }

        void append(int sticks, int way) {
            if (used < 0 || used >= sizes.length || used >= ways.length) return;
            sizes[used] = sticks;
            ways[used] = way;
            used++;
        }

        void show(long v) {
            clear();
            for (int place = PLACES - 1; place >= 0; place--) {
                int digit = Rods.digit(v, place);
                if (digit != 0) append(digit, Rods.way(place));
            }
        }

        int countReadings() {
            for (int group = used; group >= 0; group--) {
                for (int limit = 0; limit <= PLACES; limit++) countLayouts(group, limit);
            }
            return layoutsBelow(0, PLACES);
        }

        private void countLayouts(int group, int limit) {
            int count = 0;
            if (group == used) {
                count = 1;
            } else if (limit > 0) {
                count = layoutsBelow(group, limit - 1) + layoutsWith(group, limit - 1);
            }
            int at = group * (PLACES + 1) + limit;
            if (at >= 0 && at < layouts.length) layouts[at] = count;
        }

        private int layoutsBelow(int group, int limit) {
            int at = group * (PLACES + 1) + limit;
            return at >= 0 && at < layouts.length ? layouts[at] : 0;
        }

        /** In how many ways the groups from this one on lie, if it is at the place itself. */
        private int layoutsWith(int group, int place) {
            if (group < 0 || group >= ways.length || ways[group] != Rods.way(place)) return 0;
            return layoutsBelow(group + 1, place);
        }

        /** Readings with the first group at a lower place are the lesser ones, and so on rightwards. */
        long findReading(int wanted) {
            if (wanted < 0 || wanted >= countReadings()) return LOST + NONE;
            int before = wanted;
            int limit = PLACES;
            long v = 0;
            for (int group = 0; group < used && group < sizes.length; group++) {
                int place = 0;
                for (; place < limit - 1; place++) {
                    int with = layoutsWith(group, place);
                    if (before < with) break;
                    before -= with;
                }
                v += sizes[group] * Rods.tenTo(place);
                limit = place;
            }
            return v;
        }
    }

    /** Boards one behind the other, and between each two the note of a step. */
    private static final class Course {
        static final int PARTS = 6;
        static final int KIND = 0;
        static final int FIRST = 1;
        static final int PLACE = 2;
        static final int DIGIT = 3;
        static final int SECOND = 4;
        static final int THIRD = 5;

        /** The longest one is TIMES: 7 digits by 6 below BEYOND, and c emptied: 43 steps. */
        private static final int MOST_STEPS = 48;

        private final long[] cells = new long[(MOST_STEPS + 1) * ROWS];
        private final int[] notes = new int[MOST_STEPS * PARTS];
        private int boards;

        int size() {
            return boards;
        }

        int steps() {
            return boards == 0 ? 0 : boards - 1;
        }

        boolean has(int board, int row) {
            return board >= 0 && board < boards && isRow(row);
        }

        long cell(int board, int row) {
            int at = board * ROWS + row;
            return at >= 0 && at < cells.length ? cells[at] : 0L;
        }

        void put(int board, int row, long v) {
            int at = board * ROWS + row;
            if (at >= 0 && at < cells.length) cells[at] = v;
        }

        int noted(int step, int what) {
            int at = step * PARTS + what;
            return at >= 0 && at < notes.length ? notes[at] : 0;
        }

        private void tell(int step, int what, int v) {
            int at = step * PARTS + what;
            if (at >= 0 && at < notes.length) notes[at] = v;
        }

        void forget() {
            boards = 0;
        }

        void begin(long[] rows) {
            boards = 1;
            for (int row = 0; row < rows.length; row++) put(0, row, rows[row]);
        }

        void takeFrom(Course other) {
            boards = other.boards;
            for (int i = 0; i < cells.length && i < other.cells.length; i++) cells[i] = other.cells[i];
            for (int i = 0; i < notes.length && i < other.notes.length; i++) notes[i] = other.notes[i];
        }

        /** A step more: its note, and behind it the board to which the note leads. */
        void go(int kind, int first, int place, int digit, int second, int third) {
            if (boards < 1 || boards > MOST_STEPS) return;
            int step = boards - 1;
            tell(step, KIND, kind);
            tell(step, FIRST, first);
            tell(step, PLACE, place);
            tell(step, DIGIT, digit);
            tell(step, SECOND, second);
            tell(step, THIRD, third);
            for (int row = 0; row < ROWS; row++) put(boards, row, walked(step, row));
            boards++;
        }

        /** What a row holds behind the step by its note; LOST, if that leads nowhere. */
        long walked(int step, int row) {
            long v = cell(step, row);
            int kind = noted(step, KIND);
            boolean isFirst = row == noted(step, FIRST);
            if (kind == EMPTYING) return isFirst ? 0L : v;
            long more = noted(step, DIGIT) * Rods.tenTo(noted(step, PLACE));
            if (row == grown(step)) {
                v += more;
            } else if (isFirst) {
                long less = lessened(step, more);
                if (Rods.isBeyond(less)) return LOST;
                v -= less;
            }
            return Rods.isBeyond(v) ? LOST : v;
        }

        /** The row that becomes more by the digit at the place. */
        private int grown(int step) {
            int kind = noted(step, KIND);
            if (kind == ADDING || kind == MULTIPLYING) return noted(step, FIRST);
            return noted(step, kind == PARTING ? THIRD : SECOND);
        }

        /** What a parting or a root takes from its first row; LOST, if that is BEYOND on the way. */
        private long lessened(int step, long more) {
            long second = cell(step, noted(step, SECOND));
            if (noted(step, KIND) == PARTING) return Rods.product(more, second);
            int n = noted(step, KIND) == SQUARE_ROOT ? 2 : 3;
            long old = Rods.power(second, n);
            long now = Rods.power(second + more, n);
            return old == LOST || now == LOST ? LOST : now - old;
        }

        /** Whether the row's number decides what the step takes from its first row. */
        boolean actsOnFirst(int step, int row) {
            int kind = noted(step, KIND);
            boolean takesAway = kind == PARTING || kind == SQUARE_ROOT || kind == CUBE_ROOT;
            return takesAway && row == noted(step, SECOND);
        }
    }

    /** The rows as they lie now, and the latest working on them. */
    private static final class Working {
        private final long[] rows = new long[ROWS];
        private final Course course = new Course();

        long held(int row) {
            return row >= 0 && row < rows.length ? rows[row] : 0L;
        }

        void hold(int row, long v) {
            if (row >= 0 && row < rows.length) rows[row] = v;
        }

        int allSticks() {
            int all = 0;
            for (int row = 0; row < rows.length; row++) all += Rods.allSticks(rows[row]);
            return all;
        }

        int addRows(int a, int b) {
            course.begin(rows);
            long v = held(b);
            for (int place = PLACES - 1; place >= 0; place--) {
                int digit = Rods.digit(v, place);
                if (digit != 0) course.go(ADDING, a, place, v < 0 ? -digit : digit, b, NONE);
            }
            return end();
        }

        int multiplyRows(int a, int b, int c) {
            begin(c);
            boolean isLess = (held(a) < 0) != (held(b) < 0);
            for (int high = PLACES - 1; high >= 0; high--) {
                for (int low = PLACES - 1; low >= 0; low--) {
                    int digit = Rods.digit(held(a), high) * Rods.digit(held(b), low);
                    if (digit != 0) {
                        course.go(MULTIPLYING, c, high + low, isLess ? -digit : digit, NONE, NONE);
                    }
                }
            }
            return end();
        }

        int partRows(int a, int b, int c) {
            begin(c);
            for (int place = PLACES - 1; place >= 0; place--) {
                int digit = quotientDigit(latest(a), held(b), place);
                if (digit != 0) course.go(PARTING, a, place, digit, b, c);
            }
            return end();
        }

        /** b at the place may be too great for a long, so the places of a below it are cut off instead. */
        private static int quotientDigit(long a, long b, int place) {
            long ten = Rods.tenTo(place);
            return ten == 0 || b == 0 ? 0 : (int) (a / ten / b);
        }

        int rootRow(int a, int b, int n) {
            begin(b);
            for (int place = n == 2 ? 5 : 3; place >= 0; place--) {
                int digit = rootDigit(held(a), latest(b), place, n);
                if (digit != 0) course.go(n == 2 ? SQUARE_ROOT : CUBE_ROOT, a, place, digit, b, NONE);
            }
            return end();
        }

        private static int rootDigit(long a, long root, int place, int n) {
            for (int digit = 9; digit > 0; digit--) {
                long power = Rods.power(root + digit * Rods.tenTo(place), n);
                if (power != LOST && power <= a) return digit;
            }
            return 0;
        }

        /** Begins a working into a row, which is emptied first. */
        private void begin(int into) {
            course.begin(rows);
            if (held(into) != 0) course.go(EMPTYING, into, 0, 0, NONE, NONE);
        }

        private long latest(int row) {
            return course.cell(course.steps(), row);
        }

        /** The rows come to what the last board holds. */
        private int end() {
            for (int row = 0; row < rows.length; row++) rows[row] = latest(row);
            return course.steps();
        }
    }

    /** The clerk's copy of a course, with its gaps and faults. */
    private static final class Clerk {
        /** No number is LOST, so it stands for a cell that is not written. */
        static final long GAP = LOST;

        private final Course course = new Course();

        boolean hasCopy() {
            return course.size() > 0;
        }

        void forget() {
            course.forget();
        }

        void copyFrom(Course original) {
            course.takeFrom(original);
        }

        int change(int board, int row, long v) {
            if (course.cell(board, row) == v) return 0;
            course.put(board, row, v);
            return 1;
        }

        int allGaps() {
            int all = 0;
            for (int board = 0; board < course.size(); board++) all += gapsIn(board);
            return all;
        }

        private int gapsIn(int board) {
            int gaps = 0;
            for (int row = 0; row < ROWS; row++) {
                if (course.cell(board, row) == GAP) gaps++;
            }
            return gaps;
        }

        boolean isDark(int step) {
            return gapsIn(step) > 0 || gapsIn(step + 1) > 0;
        }

        /** Whether there is such a step, it is not dark, and it leads to the next board. */
        boolean isRight(int step) {
            if (step < 0 || step >= course.steps() || isDark(step)) return false;
            for (int row = 0; row < ROWS; row++) {
                if (!fits(step, row)) return false;
            }
            return true;
        }

        /** Whether the step leads to what the next board has in the row; of no use at gaps. */
        private boolean fits(int step, int row) {
            return course.walked(step, row) == course.cell(step + 1, row);
        }

        int blamed() {
            for (int step = 0; step < course.steps(); step++) {
                if (!isDark(step) && !isRight(step)) return step + 1;
            }
            return NONE;
        }

        /** The mend that is wanted, as one number, or with -1 how many there are. */
        int findMend(int wanted) {
            int blamed = blamed();
            if (blamed == NONE) return wanted == -1 ? 0 : NONE;
            int step = blamed - 1;
            int found = 0;
            for (int i = 0; i < 2 * ROWS; i++) {
                int board = step + i / ROWS;
                int row = i % ROWS;
                if (!mayMend(step, board, row)) continue;
                for (int k = 0; k < PLACES * 10; k++) {
                    if (!mends(step, board, row, k / 10, k % 10)) continue;
                    if (found == wanted) return 100000 * board + 1000 * row + k;
                    found++;
                }
            }
            return wanted == -1 ? found : NONE;
        }

        /** Spares most tries: all rows that a change here leaves as they are must fit already. */
        private boolean mayMend(int step, int board, int row) {
            boolean actsOnFirst = board == step && course.actsOnFirst(step, row);
            for (int other = 0; other < ROWS; other++) {
                if (other == row) continue;
                if (actsOnFirst && other == course.noted(step, Course.FIRST)) continue;
                if (!fits(step, other)) return false;
            }
            return true;
        }

        private boolean mends(int step, int board, int row, int place, int digit) {
            long was = course.cell(board, row);
            if (digit == Rods.digit(was, place)) return false;
            int beside = board == step ? step - 1 : step + 1;
            course.put(board, row, Rods.withDigit(was, place, digit));
            boolean mended = fits(step, row) && isRight(step);
            boolean besideIsRight = mended && isRight(beside);
            course.put(board, row, was);
            return mended && (besideIsRight || !isRight(beside));
        }

        int fillGaps() {
            int filled = 0;
            for (int board = 1; board < course.size(); board++) {
                if (gapsIn(board - 1) == 0 && agrees(board)) filled += fillBoard(board);
            }
            return filled;
        }

        /** Whether the step to the board leads somewhere, and to all that is written there. */
        private boolean agrees(int board) {
            for (int row = 0; row < ROWS; row++) {
                long walked = course.walked(board - 1, row);
                long written = course.cell(board, row);
                if (walked == LOST || (written != GAP && written != walked)) return false;
            }
            return true;
        }

        private int fillBoard(int board) {
            int filled = 0;
            for (int row = 0; row < ROWS; row++) {
                filled += change(board, row, course.walked(board - 1, row));
            }
            return filled;
        }
    }

    /** Unknowns in columns, and how they are cleared. */
    private static final class Clearing {
        private static final int WIDTH = MOST_UNKNOWNS + 1;

        private final int[] given = new int[MOST_COLUMNS * WIDTH];
        /** As clearing leaves them. Each is a minor of what is given, at most, so all products fit in a long. */
        private final long[] numbers = new long[MOST_COLUMNS * WIDTH];
        private final boolean[] frees = new boolean[MOST_UNKNOWNS];
        private final long[] uppers = new long[MOST_UNKNOWNS];
        private int n;
        private int m;
        private int turnsTaken;
        private int settled;

        void begin(int unknowns, int columns) {
            n = unknowns;
            m = columns;
            for (int i = 0; i < given.length; i++) given[i] = 0;
        }

        boolean has(int column, int k) {
            return column >= 0 && column < m && k >= 0 && k <= n;
        }

        boolean isUnknown(int k) {
            return k >= 0 && k < n;
        }

        int exchangeGiven(int column, int k, int v) {
            int at = column * WIDTH + k;
            if (at < 0 || at >= given.length) return 0;
            int was = given[at];
            given[at] = v;
            return was;
        }

        long cell(int column, int k) {
            int at = column * WIDTH + k;
            return at >= 0 && at < numbers.length ? numbers[at] : 0L;
        }

        private void put(int column, int k, long v) {
            int at = column * WIDTH + k;
            if (at >= 0 && at < numbers.length) numbers[at] = v;
        }

        boolean isFree(int k) {
            return k >= 0 && k < frees.length && frees[k];
        }

        void clear() {
            for (int i = 0; i < numbers.length && i < given.length; i++) numbers[i] = given[i];
            turnsTaken = 0;
            settled = 0;
            for (int k = 0; k < n && k < frees.length; k++) {
                int first = firstWith(k);
                frees[k] = first == NONE;
                if (first != NONE) {
                    exchange(first, settled);
                    turnAllBehind(k);
                    settled++;
                }
            }
        }

        /** The first column, from those that are not settled, with a number for the unknown. */
        private int firstWith(int k) {
            for (int column = settled; column < m; column++) {
                if (cell(column, k) != 0) return column;
            }
            return NONE;
        }

        private void exchange(int column, int other) {
            for (int k = 0; k <= n; k++) {
                long was = cell(column, k);
                put(column, k, cell(other, k));
                put(other, k, was);
            }
        }

        private void turnAllBehind(int k) {
            for (int column = settled + 1; column < m; column++) {
                if (cell(column, k) != 0) turn(column, k);
            }
        }

        private void turn(int column, int k) {
            long here = cell(column, k);
            long there = cell(settled, k);
            long common = 0;
            for (int i = 0; i <= n; i++) {
                put(column, i, cell(column, i) * there - cell(settled, i) * here);
                common = Rods.greatestPart(common, cell(column, i));
            }
            for (int i = 0; i <= n; i++) {
                if (common != 0) put(column, i, cell(column, i) / common);
            }
            turnsTaken++;
        }

        /** 0 no answer, 1 one, 2 many. */
        int kindOfAnswer() {
            for (int column = settled; column < m; column++) {
                if (cell(column, n) != 0) return 0;
            }
            return settled == n ? 1 : 2;
        }

        /** The upper (0) or the lower (1) number of the answer for an unknown. */
        long fraction(int k, int part) {
            long lower = solve();
            long upper = upper(k);
            long common = Rods.greatestPart(upper, lower);
            if (common == 0) return 0L;
            return (part == 0 ? upper : lower) / common;
        }

        private long upper(int k) {
            return k >= 0 && k < uppers.length ? uppers[k] : 0L;
        }

        /**
         * From the last unknown to the first; answers the lower number that all have in common.
         * It stays the least one, and so below a determinant: fractions apiece would outgrow a long.
         */
        private long solve() {
            long lower = 1;
            for (int k = n - 1; k >= 0 && k < uppers.length; k--) {
                long rest = cell(k, n) * lower;
                for (int i = k + 1; i < n; i++) rest -= cell(k, i) * upper(i);
                long under = cell(k, k);
                long common = Rods.greatestPart(rest, under);
                if (common == 0) return 0L;
                long wider = Math.abs(under) / common;
                uppers[k] = (under < 0 ? -rest : rest) / common;
                for (int i = k + 1; i < n && i < uppers.length; i++) uppers[i] *= wider;
                lower *= wider;
            }
            return lower;
        }
    }

    /** Remainders of several counts, joined to one number. */
    private static final class Counts {
        private static final int MOST = 6;
        private static final int MOST_TURNS = 1000;

        private final int[] bys = new int[MOST];
        private final int[] lefts = new int[MOST];
        private int size;

        int size() {
            return size;
        }

        void clear() {
            size = 0;
        }

        boolean isFull() {
            return size >= MOST;
        }

        void append(int by, int left) {
            if (size < 0 || size >= bys.length || size >= lefts.length) return;
            bys[size] = by;
            lefts[size] = left;
            size++;
        }

        private int by(int i) {
            return i >= 0 && i < bys.length ? bys[i] : 1;
        }

        private int left(int i) {
            return i >= 0 && i < lefts.length ? lefts[i] : 0;
        }

        int firstClash() {
            for (int i = 0; i < size; i++) {
                for (int ahead = 0; ahead < i; ahead++) {
                    long common = Rods.greatestPart(by(i), by(ahead));
                    if (common != 0 && (left(i) - left(ahead)) % common != 0) return i;
                }
            }
            return NONE;
        }

        long allGoInto() {
            long all = 1;
            for (int i = 0; i < size; i++) all = bothGoInto(all, by(i));
            return all;
        }

        private static long bothGoInto(long x, long y) {
            long common = Rods.greatestPart(x, y);
            return common == 0 ? 0L : x / common * y;
        }

        /** Goes on by what the counts ahead all go into, until the next count is left so, too. */
        long leastLeavingAll() {
            long least = 0;
            long all = 1;
            for (int i = 0; i < size; i++) {
                long by = by(i);
                for (int tries = 0; tries < MOST_BY; tries++) {
                    if (by == 0 || least % by == left(i)) break;
                    least += all;
                }
                all = bothGoInto(all, by);
            }
            return least;
        }

        /** Seeking one of a by m: 0 the turns, 1 the one that is sought, 2 what x is at the end. */
        static int seekOne(int a, int m, int what) {
            int x = m;
            int u = 0;
            int y = a;
            int v = 1;
            int turns = 0;
            while (turns < MOST_TURNS && y != 0) {
                int quotient = x / y;
                int rest = x - quotient * y;
                int next = u - quotient * v;
                x = y;
                u = v;
                y = rest;
                v = next;
                turns++;
            }
            if (what == 0) return turns;
            if (what == 2) return x;
            if (x != 1) return NONE;
            return u < 0 ? u + m : u;
        }
    }

    /** Old problems; each answers its first (part 0) or second (1) number, or that there is none. */
    private static final class Problems {
        static boolean isTold(int v) {
            return v >= 0 && v <= MOST_IN_PROBLEM;
        }

        static long shared(int x, int y, int part) {
            if (y == 0) return LOST + NO;
            return part == 0 ? x / y : x % y;
        }

        static long side(int x, int part) {
            long side = 0;
            while (side < MOST_IN_PROBLEM && (side + 1) * (side + 1) <= x) side++;
            return part == 0 ? side : x - side * side;
        }

        /** If all heads were birds', some feet would be over: each beast has z - 2 of them. */
        static long birdsAndBeasts(int heads, int feet, int z, int part) {
            int over = feet - 2 * heads;
            int each = z - 2;
            if (each <= 0 || over < 0 || over % each != 0) return LOST + NO;
            int beasts = over / each;
            if (beasts > heads) return LOST + NO;
            return part == 0 ? heads - beasts : beasts;
        }

        static long leftByThreeFiveSeven(int x, int y, int z, int part) {
            if (x >= 3 || y >= 5 || z >= 7) return LOST + NO;
            if (part == 1) return 0L;
            for (int v = 0; v < 105; v++) {
                if (v % 3 == x && v % 5 == y && v % 7 == z) return v;
            }
            return LOST + NO;
        }

        /** What is too much at the one giving and lacks at the other is the givings' difference for all. */
        static long boughtTogether(int x, int y, int z, int w, int part) {
            int apart = x - z;
            if (apart <= 0 || (y + w) % apart != 0) return LOST + NO;
            long buyers = (y + w) / apart;
            return part == 0 ? buyers : buyers * x - y;
        }
    }
}
