import java.lang.reflect.InvocationTargetException;
import java.lang.reflect.Method;
import java.lang.reflect.Modifier;

/** No call ever throws: each one with all sorts of numbers in all its places, on boards in all sorts of states. */
public final class NoThrowTest {
    private static final int CALLS = 512;
    private static final int STATES = 5;
    private static final long[] NUMBERS = {
        Long.MIN_VALUE, -1000000000000L, -9, -1, 0, 1, 2, 3, 7, 8, 11, 12, 43, 1000, 999999999999L, Long.MAX_VALUE
    };
    private static final int[] FEW = {0, 3, 4, 7, 9, 13, 15};
    private static final Due due = new Due("NoThrowTest");

    private RodBoard board;
    private int made;
    private final int state;
    private final Method method;

    private NoThrowTest(int state, Method method) {
        this.state = state;
        this.method = method;
    }

    public static void main(String[] args) throws IllegalAccessException {
        int methods = 0;
        for (Method method : RodBoard.class.getMethods()) {
            if (method.getDeclaringClass() != RodBoard.class || Modifier.isStatic(method.getModifiers())) continue;
            methods++;
            for (int state = 0; state < STATES; state++) new NoThrowTest(state, method).callWithAll();
        }
        due.is("methods", methods, 38);
        due.end();
    }

    /** With many places, fewer numbers in each. */
    private void callWithAll() throws IllegalAccessException {
        Class<?>[] types = method.getParameterTypes();
        boolean isWide = types.length > 3;
        int some = isWide ? FEW.length : NUMBERS.length;
        long all = 1;
        for (int i = 0; i < types.length; i++) all *= some;
        for (long chosen = 0; chosen < all; chosen++) {
            Object[] told = new Object[types.length];
            long rest = chosen;
            for (int i = 0; i < types.length; i++) {
                int at = (int) (rest % some);
                long v = NUMBERS[isWide ? FEW[at] : at];
                rest /= some;
                if (types[i] == int.class) {
                    told[i] = (int) Math.max(Integer.MIN_VALUE, Math.min(Integer.MAX_VALUE, v));
                } else {
                    told[i] = v;
                }
            }
            call(told);
        }
    }

    private void call(Object[] told) throws IllegalAccessException {
        if (board == null || made == CALLS) {
            board = new RodBoard();
            made = prepare();
        }
        made++;
        try {
            method.invoke(board, told);
        } catch (InvocationTargetException thrown) {
            due.is(method + " of " + java.util.Arrays.toString(told) + " in state " + state + " threw "
                + thrown.getCause(), 1, 0);
        }
    }

    /** Answers how many calls it took. */
    private int prepare() {
        if (state == 0) return 0;
        long[] rows = {1111111, 111111, 8, 0, -5, 999999999999L, -999999999999L, 1};
        for (int row = 0; row < 8; row++) board.lay(row, rows[row]);
        board.unknowns(4, 5);
        for (int i = 0; i < 25; i++) board.set(i / 5, i % 5, i * 37 % 101 - 50);
        if (state == 1) board.times(0, 1, 2);
        if (state == 2) board.part(5, 7, 2);
        if (state == 3) board.root(5, 3, 2);
        if (state == 4) board.root(5, 2, 3);
        board.copy();
        board.write(1, 7, -5);
        if (state > 2) board.gap(2, state);
        for (int i = 0; i < 3 * state; i++) board.group(9, i % 2);
        for (int i = 0; i < 6; i++) board.count(1000 - i, state * i);
        return 8 + 1 + 25 + 1 + 1 + 1 + 1 + 3 * state + 6;
    }
}
