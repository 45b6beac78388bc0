/** Counts the answers of one test, prints those that are not due, and ends with 1 if there was one. */
final class Due {
    private final String test;
    private int asked;
    private int wrong;

    Due(String test) {
        this.test = test;
    }

    void is(String call, long got, long want) {
        asked++;
        if (got == want) return;
        wrong++;
        System.out.println(test + ": " + call + " answered " + got + ", due is " + want);
    }

    /** Answers of one kind in a row, such as all parts of a note. */
    void are(String calls, long[] got, long... want) {
        is(calls + " (how many)", got.length, want.length);
        for (int i = 0; i < got.length && i < want.length; i++) is(calls + " (" + i + ")", got[i], want[i]);
    }

    boolean hasWrong() {
        return wrong > 0;
    }

    void end() {
        System.out.println(test + ": " + asked + " answers, " + wrong + " not as due");
        if (wrong > 0) System.exit(1);
    }
}
