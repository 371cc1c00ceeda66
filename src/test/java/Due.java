/** Compares answers with those that are due, and ends a test with exit code 1 if one differs. */
final class Due {
    static final int NONE = -100000001;
    static final int BAD = -100000002;
    static final int NO = -100000003;
    static final int FULL = -100000004;

    private int wrong = 0;
    private int asked = 0;

    void is(String call, long got, long want) {
        asked++;
        if (got != want) {
            wrong++;
            System.out.println(call + " answered " + got + ", due is " + want);
        }
    }

    /** The answers of one call, for arguments 0 on. */
    void are(String call, int[] got, int... want) {
        is(call + " (how many)", got.length, want.length);
        for (int i = 0; i < Math.min(got.length, want.length); i++) {
            is(call + " [" + i + "]", got[i], want[i]);
        }
    }

    int asked() {
        return asked;
    }

    boolean isFaultless() {
        return wrong == 0;
    }

    void end() {
        System.out.println(asked + " answers, " + wrong + " not as due");
        if (wrong != 0 || asked == 0) {
            System.exit(1);
        }
    }
}
