import java.util.Random;

/**
 * Long runs of calls, told by a seed, with fitting, nearly fitting and wild numbers: RodBoard and
 * the model must answer alike to each. What a refused call changed would show in the calls behind it.
 */
public final class RandomRunsTest {
    private static final int RUNS = 700;
    private static final int CALLS = 512;
    /** What one turn may call at most: all numbers of 5 columns of 4 unknowns. */
    private static final int CALLS_OF_A_TURN = 25;

    private final Due due = new Due("RandomRunsTest");
    private final Random random;
    private final int run;
    private final RodBoard board = new RodBoard();
    private final Model model = new Model();
    private final StringBuilder calls = new StringBuilder();
    private int turns;
    private int made;

    private RandomRunsTest(int run) {
        this.run = run;
        random = new Random(run);
    }

    public static void main(String[] args) {
        boolean wrong = false;
        for (int run = 1; run <= RUNS && !wrong; run++) wrong = new RandomRunsTest(run).isWrong();
        System.out.println("RandomRunsTest: " + RUNS + " runs of nearly " + CALLS + " calls" + (wrong ? ", one is wrong" : ""));
        if (wrong) System.exit(1);
    }

    private boolean isWrong() {
        int theme = run % 7;
        while (made + CALLS_OF_A_TURN <= CALLS && turns < 2 * CALLS && !due.hasWrong()) {
            turns++;
            callOne(theme == 0 ? random.nextInt(39) : themed(theme));
        }
        if (due.hasWrong()) System.out.println("run " + run + ":" + calls);
        return due.hasWrong();
    }

    /** Most calls are of one chapter, so that it gets into all its states. */
    private int themed(int theme) {
        int[][] chapters = {
            {}, {0, 1, 2, 3, 4, 4, 4, 5, 6, 7, 8, 8}, {0, 0, 9, 9, 10, 10, 11, 11, 12, 12, 13, 14, 14, 15, 15},
            {41, 16, 39, 39, 39, 39, 39, 39, 39, 39, 17, 18, 18, 19, 20, 20, 20, 21, 21, 22, 22, 23, 23, 42},
            {24, 40, 40, 40, 25, 26, 27, 28, 28, 29, 29, 29, 29, 30}, {31, 31, 31, 32, 33, 33, 34, 35, 35},
            {36, 36, 36, 37}
        };
        int[] chapter = chapters[theme];
        return random.nextInt(theme == 3 ? 100 : 20) == 0 ? random.nextInt(39) : chapter[random.nextInt(chapter.length)];
    }

    private void same(String call, long got, long want) {
        made++;
        calls.append(' ').append(call).append('=').append(want);
        due.is("run " + run + " " + call, got, want);
    }

    private int of(int... some) {
        return some[random.nextInt(some.length)];
    }

    /** Mostly from low to high; now and then just outside, or far off. */
    private int near(int low, int most) {
        int high = Math.max(low, Math.min(most, 2000000));
        int dice = random.nextInt(40);
        if (dice == 0) return low - 1;
        if (dice == 1) return high + 1;
        if (dice == 2) return of(Integer.MIN_VALUE, Integer.MAX_VALUE, -1000, 1 << 30, -6);
        if (dice < 6) return random.nextBoolean() ? low : high;
        return low + random.nextInt(high - low + 1);
    }

    private long numeral() {
        long size = 1;
        for (int places = random.nextInt(13); places > 0; places--) size *= 10;
        long v = Math.floorMod(random.nextLong(), size);
        if (random.nextInt(3) == 0) v = thinned(v);
        switch (random.nextInt(60)) {
            case 0: return RodBoard.BEYOND;
            case 1: return -RodBoard.BEYOND;
            case 2: return RodBoard.BEYOND - 1;
            case 3: return random.nextBoolean() ? Long.MIN_VALUE : Long.MAX_VALUE;
            case 4: return random.nextBoolean() ? RodBoard.LOST : RodBoard.LOST - 6;
            case 5: return 1 - RodBoard.BEYOND;
            default: return random.nextInt(4) == 0 ? -v : v;
        }
    }

    private long thinned(long v) {
        char[] text = Long.toString(v).toCharArray();
        for (int i = 0; i < text.length; i++) if (random.nextBoolean()) text[i] = '0';
        return Long.parseLong(new String(text));
    }

    private void callOne(int which) {
        int row = near(0, 7);
        int other = near(0, 7);
        int third = near(0, 7);
        int step = near(0, model.boards() - 1);
        long v = numeral();
        switch (which) {
            case 0: same("lay(" + row + "," + v + ")", board.lay(row, v), model.lay(row, v)); break;
            case 1: same("number(" + row + ")", board.number(row), model.number(row)); break;
            case 2: {
                int place = near(0, 11);
                same("sticks(" + row + "," + place + ")", board.sticks(row, place), model.sticks(row, place));
                break;
            }
            case 3: {
                int what = near(0, 3);
                same("about(" + row + "," + what + ")", board.about(row, what), model.about(row, what));
                break;
            }
            case 4: {
                int sticks = near(1, 9);
                int way = near(0, 1);
                same("group(" + sticks + "," + way + ")", board.group(sticks, way), model.group(sticks, way));
                break;
            }
            case 5: same("strip(" + row + ")", board.strip(row), model.strip(row)); break;
            case 6: same("wipe()", board.wipe(), model.wipe()); break;
            case 7: same("readings()", board.readings(), model.readings()); break;
            case 8: {
                int i = near(0, model.readings() - 1);
                same("reading(" + i + ")", board.reading(i), model.reading(i));
                break;
            }
            case 9: same("add(" + row + "," + other + ")", board.add(row, other), model.add(row, other)); break;
            case 10:
                same("times(" + row + "," + other + "," + third + ")",
                    board.times(row, other, third), model.times(row, other, third));
                break;
            case 11:
                same("part(" + row + "," + other + "," + third + ")",
                    board.part(row, other, third), model.part(row, other, third));
                break;
            case 12: {
                int n = near(2, 3);
                same("root(" + row + "," + other + "," + n + ")", board.root(row, other, n), model.root(row, other, n));
                break;
            }
            case 13: same("boards()", board.boards(), model.boards()); break;
            case 14: same("board(" + step + "," + row + ")", board.board(step, row), model.board(step, row)); break;
            case 15: {
                int what = near(0, 5);
                same("note(" + step + "," + what + ")", board.note(step, what), model.note(step, what));
                break;
            }
            case 16: same("copy()", board.copy(), model.copy()); break;
            case 17: same("write(" + step + "," + row + "," + v + ")", board.write(step, row, v), model.write(step, row, v)); break;
            case 18: same("gap(" + step + "," + row + ")", board.gap(step, row), model.gap(step, row)); break;
            case 19: same("read(" + step + "," + row + ")", board.read(step, row), model.read(step, row)); break;
            case 20: same("right(" + step + ")", board.right(step), model.right(step)); break;
            case 21: same("blame()", board.blame(), model.blame()); break;
            case 22: {
                int i = near(-1, 2);
                same("mend(" + i + ")", board.mend(i), model.mend(i));
                break;
            }
            case 23: same("fill()", board.fill(), model.fill()); break;
            case 24: {
                int n = near(1, 4);
                int m = near(1, 5);
                same("unknowns(" + n + "," + m + ")", board.unknowns(n, m), model.unknowns(n, m));
                break;
            }
            case 25: setOne(near(0, model.told(4) - 1), near(0, model.told(3))); break;
            case 26: same("kind()", board.kind(), model.kind()); break;
            case 27: same("turns()", board.turns(), model.turns()); break;
            case 28: {
                int column = near(0, model.told(4) - 1);
                int k = near(0, model.told(3));
                same("cleared(" + column + "," + k + ")", board.cleared(column, k), model.cleared(column, k));
                break;
            }
            case 29: {
                int k = near(0, model.told(3) - 1);
                int part = near(0, 1);
                same("answer(" + k + "," + part + ")", board.answer(k, part), model.answer(k, part));
                break;
            }
            case 30: {
                int k = near(0, model.told(3) - 1);
                same("free(" + k + ")", board.free(k), model.free(k));
                break;
            }
            case 31: {
                int by = random.nextBoolean() ? near(2, 30) : near(2, 1000);
                int left = near(0, by - 1);
                same("count(" + by + "," + left + ")", board.count(by, left), model.count(by, left));
                break;
            }
            case 32: if (random.nextInt(4) == 0) same("drop()", board.drop(), model.drop()); break;
            case 33: {
                int what = near(0, 1);
                same("joined(" + what + ")", board.joined(what), model.joined(what));
                break;
            }
            case 34: same("clash()", board.clash(), model.clash()); break;
            case 35: {
                int m = near(2, 1000);
                int a = near(1, m - 1);
                int what = near(0, 2);
                same("seek(" + a + "," + m + "," + what + ")", board.seek(a, m, what), model.seek(a, m, what));
                break;
            }
            case 36: problemOne(); break;
            case 37: {
                int what = near(0, 7);
                same("told(" + what + ")", board.told(what), model.told(what));
                break;
            }
            case 38: for (int what = 0; what < 8; what++) same("told(" + what + ")", board.told(what), model.told(what)); break;
            case 39: faultOne(); break;
            case 41: copyOfWorking(); break;
            case 42: gapsInARow(); break;
            default: setAll(); break;
        }
    }

    /** A working that goes, on rows of few places, and its copy. */
    private void copyOfWorking() {
        int a = random.nextInt(8);
        int b = (a + 1 + random.nextInt(7)) % 8;
        int c = 0;
        while (c == a || c == b) c++;
        for (int row : new int[] {a, b}) {
            long v = Math.abs(numeral()) % of(1000, 1000000);
            same("lay(" + row + "," + v + ")", board.lay(row, v), model.lay(row, v));
        }
        int n = of(2, 3);
        switch (random.nextInt(4)) {
            case 0: same("add(" + a + "," + b + ")", board.add(a, b), model.add(a, b)); break;
            case 1: same("times(" + a + "," + b + "," + c + ")", board.times(a, b, c), model.times(a, b, c)); break;
            case 2: same("part(" + a + "," + b + "," + c + ")", board.part(a, b, c), model.part(a, b, c)); break;
            default: same("root(" + a + "," + b + "," + n + ")", board.root(a, b, n), model.root(a, b, n)); break;
        }
        same("copy()", board.copy(), model.copy());
    }

    /** Gaps in some boards one behind the other, and what is filled of them. */
    private void gapsInARow() {
        int last = model.boards() - 1;
        for (int i = random.nextInt(last + 2); i <= last && random.nextInt(4) != 0; i++) {
            int row = random.nextInt(8);
            same("gap(" + i + "," + row + ")", board.gap(i, row), model.gap(i, row));
        }
        same("right(" + last + " less 1)", board.right(last - 1), model.right(last - 1));
        same("fill()", board.fill(), model.fill());
    }

    /** A cell of the copy with one other digit, or another sign, or what the step would lead to: likely mends. */
    private void faultOne() {
        if (model.told(2) == 0) return;
        int i = random.nextInt(model.boards());
        int row = random.nextInt(8);
        if (model.told(1) > 0 && random.nextBoolean()) {
            int step = Math.min(i, model.told(1) - 1);
            row = model.note(step, of(1, 1, 4, 5));
            if (row < 0) row = 0;
        }
        long was = model.read(i, row);
        if (was <= -RodBoard.BEYOND) return;
        long ten = 1;
        for (int place = random.nextInt(12); place > 0; place--) ten *= 10;
        long v = random.nextInt(6) == 0 ? -was : Math.abs(was) / ten % 10 == 9 ? was - ten : was + ten;
        if (random.nextInt(3) == 0) v = model.board(i, row);
        same("write(" + i + "," + row + "," + v + ")", board.write(i, row, v), model.write(i, row, v));
        if (random.nextInt(3) == 0) same("mend(-1)", board.mend(-1), model.mend(-1));
        if (random.nextInt(3) == 0) same("mend(0)", board.mend(0), model.mend(0));
    }

    private void setOne(int column, int k) {
        int v = k == model.told(3) ? near(-9999, 9999) : near(-50, 50);
        if (random.nextInt(4) == 0) v = random.nextInt(5) - 2;
        same("set(" + column + "," + k + "," + v + ")", board.set(column, k, v), model.set(column, k, v));
    }

    private void setAll() {
        boolean small = random.nextBoolean();
        boolean greatest = random.nextInt(4) == 0;
        for (int column = 0; column < model.told(4); column++) {
            for (int k = 0; k <= model.told(3); k++) {
                int most = k == model.told(3) ? 9999 : 50;
                int v = random.nextInt(2 * most + 1) - most;
                if (small) v = random.nextInt(7) - 3;
                if (greatest) v = (random.nextBoolean() ? most : -most) + (k == 0 ? 0 : random.nextInt(3) - 1);
                same("set(" + column + "," + k + "," + v + ")", board.set(column, k, v), model.set(column, k, v));
            }
        }
    }

    private void problemOne() {
        int kind = near(0, 5);
        int most = of(10, 100, 1000000, 1000000);
        if (kind == 3) most = Math.min(most, 3000);
        int x = near(0, kind == 4 ? 2 : most);
        int y = near(0, kind == 4 ? 4 : most);
        int z = near(0, kind == 4 ? 6 : Math.min(most, of(4, 10, 1000000)));
        int w = near(0, most);
        int part = near(0, 1);
        if (kind == 3 && random.nextBoolean() && x >= 0 && x < 1000 && z > 2 && z < 900) {
            int beasts = random.nextInt(x + 1);
            y = 2 * (x - beasts) + z * beasts;
        }
        if (kind == 5 && random.nextBoolean() && x > z && z >= 0 && w >= 0 && w <= 1000000) {
            int buyers = random.nextInt(1000);
            y = Math.max(0, (int) Math.min(1000000L, (long) buyers * (x - z) - w));
        }
        same("problem(" + kind + "," + x + "," + y + "," + z + "," + w + "," + part + ")",
            board.problem(kind, x, y, z, w, part), model.problem(kind, x, y, z, w, part));
    }
}
