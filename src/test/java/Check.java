/** Holds each answer against the one that is due, and ends a test with exit code 1 if one was wrong. */
final class Check {
    private static final int MOST_PRINTED = 40;
    private int asked = 0;
    private int wrong = 0;

    void due(String call, long got, long want) {
        count(got == want, call + " answered " + got + ", due is " + want);
    }

    void due(String call, boolean got, boolean want) {
        due(call, got ? 1 : 0, want ? 1 : 0);
    }

    void due(String call, String got, String want) {
        count(got.equals(want), call + "\n  answered " + got + "\n  due is   " + want);
    }

    /** Answers for 0, 1, .. */
    void row(String call, int[] got, int... want) {
        due(call + " length", got.length, want.length);
        for (int i = 0; i < Math.min(got.length, want.length); i++) {
            due(call + " of " + i, got[i], want[i]);
        }
    }

    private void count(boolean right, String text) {
        asked++;
        if (!right) {
            wrong++;
            if (wrong <= MOST_PRINTED) {
                System.out.println(text);
            }
        }
    }

    /** A test that asked nothing has failed too. */
    boolean passed() {
        return asked > 0 && wrong == 0;
    }

    void end(String test) {
        System.out.println(test + ": " + asked + " answers, " + wrong + " wrong");
        if (!passed()) {
            System.exit(1);
        }
    }
}
