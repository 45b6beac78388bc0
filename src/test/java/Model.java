import java.math.BigInteger;
import java.util.ArrayList;
import java.util.List;
import java.util.TreeSet;

/**
 * The document once more, word by word and without a thought for speed or size: the random runs
 * compare RodBoard with it. It is written apart from RodBoard, with other means (big integers,
 * lists, trying all there is).
 */
final class Model {
    static final long LOST = -1000000000000000L;
    static final BigInteger BEYOND = BigInteger.TEN.pow(12);
    static final int NONE = -6, UNKNOWN = -1, OUTSIDE = -2, STATE = -3, FULL = -4, NO = -5;

    private BigInteger[] rows = emptyBoard();
    private final List<int[]> groups = new ArrayList<>();
    private List<BigInteger[]> boards = new ArrayList<>();
    private List<int[]> notes = new ArrayList<>();
    private List<BigInteger[]> copy = null;
    private int n = 1;
    private int m = 1;
    private BigInteger[][] given = new BigInteger[][] {{BigInteger.ZERO, BigInteger.ZERO}};
    private final List<int[]> counts = new ArrayList<>();

    private static BigInteger[] emptyBoard() {
        BigInteger[] board = new BigInteger[8];
        java.util.Arrays.fill(board, BigInteger.ZERO);
        return board;
    }

    private static BigInteger big(long v) {
        return BigInteger.valueOf(v);
    }

    private static boolean isBeyond(BigInteger v) {
        return v.abs().compareTo(BEYOND) >= 0;
    }

    private static boolean row(int row) {
        return 0 <= row && row <= 7;
    }

    private static int digit(BigInteger v, int place) {
        String text = v.abs().toString();
        int at = text.length() - 1 - place;
        return at < 0 ? 0 : text.charAt(at) - '0';
    }

    private static BigInteger at(int digit, int place) {
        return big(digit).multiply(BigInteger.TEN.pow(place));
    }

    // ---- 1

    int lay(int row, long v) {
        if (!row(row)) return UNKNOWN;
        if (isBeyond(big(v))) return OUTSIDE;
        rows[row] = big(v);
        return about(row, 0);
    }

    long number(int row) {
        return row(row) ? rows[row].longValueExact() : LOST - 1;
    }

    int sticks(int row, int place) {
        if (!row(row) || place < 0 || place > 11) return UNKNOWN;
        int digit = digit(rows[row], place);
        if (digit == 0) return 0;
        return place % 2 == 1 ? 10 + digit : digit;
    }

    int about(int row, int what) {
        if (!row(row)) return UNKNOWN;
        if (what < 0 || what > 3) return OUTSIDE;
        BigInteger v = rows[row];
        String text = v.abs().toString();
        if (what == 0) return v.signum() > 0 ? 1 : v.signum() < 0 ? 2 : 0;
        if (what == 1) return text.chars().map(c -> c - '0').sum();
        if (v.signum() == 0) return what == 2 ? NONE : 0;
        return what == 2 ? text.length() - 1 : (int) text.chars().filter(c -> c == '0').count();
    }

    int group(int sticks, int way) {
        if (sticks < 1 || sticks > 9 || (way != 0 && way != 1)) return OUTSIDE;
        if (groups.size() == 12) return FULL;
        groups.add(new int[] {sticks, way});
        return groups.size();
    }

    int strip(int row) {
        if (!row(row)) return UNKNOWN;
        groups.clear();
        for (int place = 11; place >= 0; place--) {
            int digit = digit(rows[row], place);
            if (digit != 0) groups.add(new int[] {digit, place % 2});
        }
        return groups.size();
    }

    int wipe() {
        int were = groups.size();
        groups.clear();
        return were;
    }

    private List<Long> allReadings() {
        TreeSet<Long> readings = new TreeSet<>();
        for (int places = 0; places < 4096; places++) {
            if (Integer.bitCount(places) != groups.size()) continue;
            BigInteger v = BigInteger.ZERO;
            int next = 0;
            boolean good = true;
            for (int place = 11; place >= 0; place--) {
                if ((places >> place & 1) == 0) continue;
                int[] group = groups.get(next++);
                good &= group[1] == place % 2;
                v = v.add(at(group[0], place));
            }
            if (good) readings.add(v.longValueExact());
        }
        return new ArrayList<>(readings);
    }

    int readings() {
        return allReadings().size();
    }

    long reading(int i) {
        List<Long> all = allReadings();
        return i < 0 || i >= all.size() ? LOST - 6 : all.get(i);
    }

    // ---- 2

    /** WALK: the board behind the step, or null if it leads nowhere. */
    private static BigInteger[] walk(int[] note, BigInteger[] from) {
        BigInteger[] to = from.clone();
        BigInteger more = at(note[3], note[2]);
        switch (note[0]) {
            case 0:
            case 1:
                to[note[1]] = to[note[1]].add(more);
                break;
            case 2:
                BigInteger less = more.multiply(from[note[4]]);
                if (isBeyond(less)) return null;
                to[note[5]] = to[note[5]].add(more);
                to[note[1]] = to[note[1]].subtract(less);
                break;
            case 5:
                to[note[1]] = BigInteger.ZERO;
                break;
            default:
                int power = note[0] - 1;
                to[note[4]] = to[note[4]].add(more);
                BigInteger now = to[note[4]].pow(power);
                BigInteger old = from[note[4]].pow(power);
                if (isBeyond(now) || isBeyond(old) || isBeyond(now.subtract(old))) return null;
                to[note[1]] = to[note[1]].subtract(now).add(old);
        }
        for (BigInteger v : to) {
            if (isBeyond(v)) return null;
        }
        return to;
    }

    /** A working in the making: it is kept only if no step comes to BEYOND. */
    private final class Making {
        final List<BigInteger[]> made = new ArrayList<>();
        final List<int[]> told = new ArrayList<>();
        boolean full = false;

        Making() {
            made.add(rows.clone());
        }

        BigInteger[] last() {
            return made.get(made.size() - 1);
        }

        void empty(int row) {
            if (last()[row].signum() == 0) return;
            BigInteger[] next = last().clone();
            next[row] = BigInteger.ZERO;
            step(next, 5, row, 0, 0, NONE, NONE);
        }

        void step(BigInteger[] next, int... note) {
            for (BigInteger v : next) full |= isBeyond(v);
            made.add(next);
            told.add(note);
        }

        int keep() {
            if (full) return FULL;
            boards = made;
            notes = told;
            rows = last().clone();
            copy = null;
            return notes.size();
        }
    }

    int add(int a, int b) {
        if (!row(a) || !row(b)) return UNKNOWN;
        Making making = new Making();
        BigInteger v = rows[b];
        for (int place = 11; place >= 0; place--) {
            int digit = digit(v, place) * v.signum();
            if (digit == 0) continue;
            BigInteger[] next = making.last().clone();
            next[a] = next[a].add(at(digit, place));
            making.step(next, 0, a, place, digit, b, NONE);
        }
        return making.keep();
    }

    int times(int a, int b, int c) {
        if (!row(a) || !row(b) || !row(c)) return UNKNOWN;
        if (a == b || b == c || a == c) return STATE;
        Making making = new Making();
        making.empty(c);
        for (int p = 11; p >= 0; p--) {
            for (int q = 11; q >= 0; q--) {
                int digit = digit(rows[a], p) * digit(rows[b], q) * rows[a].signum() * rows[b].signum();
                if (digit == 0) continue;
                BigInteger[] next = making.last().clone();
                next[c] = next[c].add(at(digit, p + q));
                making.step(next, 1, c, p + q, digit, NONE, NONE);
            }
        }
        return making.keep();
    }

    int part(int a, int b, int c) {
        if (!row(a) || !row(b) || !row(c)) return UNKNOWN;
        if (a == b || b == c || a == c) return STATE;
        if (rows[a].signum() < 0 || rows[b].signum() <= 0) return NO;
        Making making = new Making();
        making.empty(c);
        for (int place = 11; place >= 0; place--) {
            int digit = 9;
            while (at(digit, place).multiply(rows[b]).compareTo(making.last()[a]) > 0) digit--;
            if (digit == 0) continue;
            BigInteger[] next = making.last().clone();
            next[c] = next[c].add(at(digit, place));
            next[a] = next[a].subtract(at(digit, place).multiply(rows[b]));
            making.step(next, 2, a, place, digit, b, c);
        }
        return making.keep();
    }

    int root(int a, int b, int power) {
        if (!row(a) || !row(b)) return UNKNOWN;
        if (power != 2 && power != 3) return OUTSIDE;
        if (a == b) return STATE;
        if (rows[a].signum() < 0) return NO;
        Making making = new Making();
        making.empty(b);
        for (int place = power == 2 ? 5 : 3; place >= 0; place--) {
            BigInteger root = making.last()[b];
            int digit = 9;
            while (root.add(at(digit, place)).pow(power).compareTo(rows[a]) > 0) digit--;
            if (digit == 0) continue;
            BigInteger[] next = making.last().clone();
            next[b] = root.add(at(digit, place));
            next[a] = rows[a].subtract(next[b].pow(power));
            making.step(next, power + 1, a, place, digit, b, NONE);
        }
        return making.keep();
    }

    int boards() {
        return boards.size();
    }

    long board(int i, int row) {
        if (i < 0 || i >= boards.size() || !row(row)) return LOST - 1;
        return boards.get(i)[row].longValueExact();
    }

    int note(int i, int what) {
        if (i < 0 || i >= notes.size()) return -101;
        if (what < 0 || what > 5) return -102;
        return notes.get(i)[what];
    }

    // ---- 3

    int copy() {
        if (boards.isEmpty()) return STATE;
        copy = new ArrayList<>();
        for (BigInteger[] board : boards) copy.add(board.clone());
        return 8 * copy.size();
    }

    private boolean cell(int i, int row) {
        return 0 <= i && i < copy.size() && row(row);
    }

    int write(int i, int row, long v) {
        if (copy == null) return STATE;
        if (!cell(i, row)) return UNKNOWN;
        if (isBeyond(big(v))) return OUTSIDE;
        boolean other = !big(v).equals(copy.get(i)[row]);
        copy.get(i)[row] = big(v);
        return other ? 1 : 0;
    }

    int gap(int i, int row) {
        if (copy == null) return STATE;
        if (!cell(i, row)) return UNKNOWN;
        boolean was = copy.get(i)[row] == null;
        copy.get(i)[row] = null;
        return was ? 0 : 1;
    }

    long read(int i, int row) {
        if (copy == null) return LOST - 3;
        if (!cell(i, row)) return LOST - 1;
        return copy.get(i)[row] == null ? LOST - 6 : copy.get(i)[row].longValueExact();
    }

    private static boolean hasGap(BigInteger[] board) {
        return java.util.Arrays.asList(board).contains(null);
    }

    int right(int i) {
        if (copy == null) return STATE;
        if (i < 0 || i >= notes.size()) return UNKNOWN;
        if (hasGap(copy.get(i)) || hasGap(copy.get(i + 1))) return 2;
        BigInteger[] walked = walk(notes.get(i), copy.get(i));
        return walked != null && java.util.Arrays.equals(walked, copy.get(i + 1)) ? 1 : 0;
    }

    int blame() {
        if (copy == null) return STATE;
        for (int i = 0; i < notes.size(); i++) {
            if (right(i) == 0) return i + 1;
        }
        return NONE;
    }

    private List<Integer> allMends() {
        List<Integer> mends = new ArrayList<>();
        int blamed = blame();
        if (blamed == NONE) return mends;
        List<Integer> ahead = new ArrayList<>();
        for (int i = 0; i < notes.size(); i++) ahead.add(right(i));
        for (int board = blamed - 1; board <= blamed; board++) {
            for (int row = 0; row < 8; row++) {
                BigInteger was = copy.get(board)[row];
                for (int place = 0; place < 12; place++) {
                    for (int digit = 0; digit <= 9; digit++) {
                        if (digit == digit(was, place)) continue;
                        char[] text = String.format("%012d", was.abs()).toCharArray();
                        text[11 - place] = (char) ('0' + digit);
                        BigInteger other = new BigInteger(new String(text));
                        copy.get(board)[row] = was.signum() < 0 ? other.negate() : other;
                        boolean good = right(blamed - 1) == 1;
                        for (int i = 0; i < notes.size(); i++) good &= ahead.get(i) != 1 || right(i) == 1;
                        if (good) mends.add(100000 * board + 1000 * row + 10 * place + digit);
                    }
                }
                copy.get(board)[row] = was;
            }
        }
        return mends;
    }

    int mend(int i) {
        if (copy == null) return STATE;
        List<Integer> mends = allMends();
        if (i == -1) return mends.size();
        return i < 0 || i >= mends.size() ? NONE : mends.get(i);
    }

    int fill() {
        if (copy == null) return STATE;
        int filled = 0;
        for (int i = 1; i < copy.size(); i++) {
            BigInteger[] board = copy.get(i);
            if (hasGap(copy.get(i - 1)) || !hasGap(board)) continue;
            BigInteger[] walked = walk(notes.get(i - 1), copy.get(i - 1));
            if (walked == null) continue;
            boolean agrees = true;
            for (int row = 0; row < 8; row++) agrees &= board[row] == null || board[row].equals(walked[row]);
            if (!agrees) continue;
            for (int row = 0; row < 8; row++) {
                if (board[row] != null) continue;
                board[row] = walked[row];
                filled++;
            }
        }
        return filled;
    }

    // ---- 4

    private BigInteger[][] columns;
    private boolean[] frees;
    private int turns;
    private int settled;

    int unknowns(int unknowns, int columnsOfThem) {
        if (unknowns < 1 || unknowns > 4 || columnsOfThem < 1 || columnsOfThem > 5) return OUTSIDE;
        n = unknowns;
        m = columnsOfThem;
        given = new BigInteger[m][n + 1];
        for (BigInteger[] column : given) java.util.Arrays.fill(column, BigInteger.ZERO);
        return 1;
    }

    private boolean number(int column, int k) {
        return 0 <= column && column < m && 0 <= k && k <= n;
    }

    int set(int column, int k, int v) {
        if (!number(column, k)) return -100001;
        int most = k == n ? 9999 : 50;
        if (v < -most || v > most) return -100002;
        int was = given[column][k].intValueExact();
        given[column][k] = big(v);
        return was;
    }

    private void clear() {
        columns = new BigInteger[m][];
        for (int j = 0; j < m; j++) columns[j] = given[j].clone();
        frees = new boolean[n];
        turns = 0;
        settled = 0;
        for (int k = 0; k < n; k++) {
            int first = settled;
            while (first < m && columns[first][k].signum() == 0) first++;
            frees[k] = first == m;
            if (frees[k]) continue;
            BigInteger[] top = columns[first];
            columns[first] = columns[settled];
            columns[settled] = top;
            for (int j = settled + 1; j < m; j++) {
                if (columns[j][k].signum() != 0) turn(j, k);
            }
            settled++;
        }
    }

    private void turn(int j, int k) {
        BigInteger[] turned = new BigInteger[n + 1];
        BigInteger common = BigInteger.ZERO;
        for (int i = 0; i <= n; i++) {
            turned[i] = columns[j][i].multiply(columns[settled][k])
                .subtract(columns[settled][i].multiply(columns[j][k]));
            common = common.gcd(turned[i]);
        }
        for (int i = 0; i <= n && common.signum() != 0; i++) turned[i] = turned[i].divide(common);
        columns[j] = turned;
        turns++;
    }

    int kind() {
        clear();
        for (int j = settled; j < m; j++) {
            if (columns[j][n].signum() != 0) return 0;
        }
        return settled == n ? 1 : 2;
    }

    int turns() {
        clear();
        return turns;
    }

    long cleared(int column, int k) {
        if (!number(column, k)) return LOST - 1;
        clear();
        return columns[column][k].longValueExact();
    }

    long answer(int k, int part) {
        if (k < 0 || k >= n) return LOST - 1;
        if (part != 0 && part != 1) return LOST - 2;
        if (kind() != 1) return LOST - 3;
        BigInteger[] upper = new BigInteger[n];
        BigInteger[] lower = new BigInteger[n];
        for (int i = n - 1; i >= 0; i--) {
            BigInteger over = columns[i][n];
            BigInteger under = BigInteger.ONE;
            for (int j = i + 1; j < n; j++) {
                over = over.multiply(lower[j]).subtract(columns[i][j].multiply(upper[j]).multiply(under));
                under = under.multiply(lower[j]);
            }
            under = under.multiply(columns[i][i]);
            BigInteger common = over.gcd(under).multiply(big(under.signum()));
            upper[i] = over.divide(common);
            lower[i] = under.divide(common);
        }
        checkAnswers(upper, lower);
        return (part == 0 ? upper : lower)[k].longValueExact();
    }

    /** Put into the columns as they were given, the answers must come to what they should. */
    private void checkAnswers(BigInteger[] upper, BigInteger[] lower) {
        for (BigInteger[] column : given) {
            BigInteger all = BigInteger.ONE;
            for (BigInteger v : lower) all = all.multiply(v);
            BigInteger sum = BigInteger.ZERO;
            for (int k = 0; k < n; k++) sum = sum.add(column[k].multiply(upper[k]).multiply(all.divide(lower[k])));
            if (!sum.equals(column[n].multiply(all))) throw new IllegalStateException("the model's answers are wrong");
        }
    }

    int free(int k) {
        if (k < 0 || k >= n) return UNKNOWN;
        clear();
        return frees[k] ? 1 : 0;
    }

    // ---- 5

    int count(int by, int left) {
        if (by < 2 || by > 1000 || left < 0 || left > by - 1) return OUTSIDE;
        if (counts.size() == 6) return FULL;
        counts.add(new int[] {by, left});
        return counts.size();
    }

    int drop() {
        int were = counts.size();
        counts.clear();
        return were;
    }

    /** By inverses, where RodBoard goes on by the counts; null if some counts can't be together. */
    private BigInteger[] join() {
        BigInteger least = BigInteger.ZERO;
        BigInteger all = BigInteger.ONE;
        for (int[] count : counts) {
            BigInteger by = big(count[0]);
            BigInteger common = all.gcd(by);
            BigInteger apart = big(count[1]).subtract(least);
            if (apart.mod(common).signum() != 0) return null;
            BigInteger rest = by.divide(common);
            if (!rest.equals(BigInteger.ONE)) {
                BigInteger times = apart.divide(common).multiply(all.divide(common).modInverse(rest)).mod(rest);
                least = least.add(all.multiply(times));
            }
            all = all.multiply(rest);
        }
        return new BigInteger[] {least, all};
    }

    long joined(int what) {
        if (what != 0 && what != 1) return LOST - 2;
        BigInteger[] joined = join();
        return joined == null ? LOST - 5 : joined[what].longValueExact();
    }

    int clash() {
        for (int j = 0; j < counts.size(); j++) {
            for (int i = 0; i < j; i++) {
                boolean together = false;
                int[] one = counts.get(i);
                int[] two = counts.get(j);
                for (int v = one[1]; v < one[0] * two[0]; v += one[0]) together |= v % two[0] == two[1];
                if (!together) return j;
            }
        }
        return NONE;
    }

    int seek(int a, int m, int what) {
        if (m < 2 || m > 1000 || a < 1 || a > m - 1 || what < 0 || what > 2) return OUTSIDE;
        if (what == 2) return big(a).gcd(big(m)).intValueExact();
        if (what == 1) return big(a).gcd(big(m)).intValueExact() == 1 ? big(a).modInverse(big(m)).intValueExact() : NONE;
        int turns = 0;
        for (int x = m, y = a; y != 0; turns++) {
            int rest = x % y;
            x = y;
            y = rest;
        }
        return turns;
    }

    // ---- 6

    private static long one(int part, long first, long second) {
        return part == 0 ? first : second;
    }

    long problem(int kind, int x, int y, int z, int w, int part) {
        if (kind < 0 || kind > 5 || part < 0 || part > 1) return LOST - 2;
        for (int v : new int[] {x, y, z, w}) {
            if (v < 0 || v > 1000000) return LOST - 2;
        }
        if (kind == 0) return one(part, (long) x * y, 0);
        if (kind == 1) return y == 0 ? LOST - 5 : one(part, Math.floorDiv(x, y), Math.floorMod(x, y));
        if (kind == 2) {
            long side = big(x).sqrt().longValueExact();
            return one(part, side, x - side * side);
        }
        if (kind == 3) {
            if (z <= 2) return LOST - 5;
            for (long birds = 0; birds <= x; birds++) {
                if (2 * birds + z * (x - birds) == y) return one(part, birds, x - birds);
            }
            return LOST - 5;
        }
        if (kind == 4) {
            if (x >= 3 || y >= 5 || z >= 7) return LOST - 5;
            int v = x;
            while (v % 5 != y || v % 7 != z) v += 3;
            return one(part, v, 0);
        }
        if (x <= z || (y + w) % (x - z) != 0) return LOST - 5;
        long buyers = (y + w) / (x - z);
        long price = buyers * z + w;
        return price < 0 ? LOST - 5 : one(part, buyers, price);
    }

    int told(int what) {
        switch (what) {
            case 0: return groups.size();
            case 1: return notes.size();
            case 2: return copy == null ? 0 : 1;
            case 3: return n;
            case 4: return m;
            case 5: return counts.size();
            case 6:
                int gaps = 0;
                if (copy != null) {
                    for (BigInteger[] board : copy) for (BigInteger v : board) gaps += v == null ? 1 : 0;
                }
                return gaps;
            case 7:
                int all = 0;
                for (int row = 0; row < 8; row++) all += about(row, 1);
                return all;
            default: return OUTSIDE;
        }
    }
}
