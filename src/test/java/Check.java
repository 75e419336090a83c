/** Holds each answer against the one that is due, and ends a test with exit code 1 if one was wrong. */
final class Check {
    private static final int MOST_PRINTED = 40;
    private int asked = 0;
    private int wrong = 0;

    void due(String call, long got, long want) {
        asked++;
        if (got != want) {
            wrong++;
            if (wrong <= MOST_PRINTED) {
                System.out.println(call + " answered " + got + ", due is " + want);
            }
        }
    }

    void due(String call, boolean got, boolean want) {
        due(call, got ? 1 : 0, want ? 1 : 0);
    }

    void end(String test) {
        System.out.println(test + ": " + asked + " answers, " + wrong + " wrong");
        if (asked == 0 || wrong != 0) {
            System.exit(1);
        }
    }
}
