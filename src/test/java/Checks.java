/** Counts and prints the answers that are not as due. A test that makes one must be at its end before its clock. */
final class Checks {
    private static final int MOST_SECONDS = 300;
    private static final int MOST_PRINTED = 100;

    private final Clock clock = new Clock("the test", MOST_SECONDS);
    private int wrong = 0;

    void due(String call, int got, int want) {
        if (got != want) {
            wrong++;
            if (wrong <= MOST_PRINTED) {
                System.out.println(call + " answered " + got + ", due is " + want);
            }
        }
    }

    /** Compares all getters of an object, in and around their ranges, with those of an object made to be like it. */
    void sameFace(String when, ControllableTime got, ControllableTime want) {
        due(when + ": state()", got.state(), want.state());
        due(when + ": now()", got.now(), want.now());
        for (int e = -1; e <= 6; e++) {
            due(when + ": timeOf(" + e + ")", got.timeOf(e), want.timeOf(e));
            sameLinks(when, got, want, e);
        }
    }

    private void sameLinks(String when, ControllableTime got, ControllableTime want, int e) {
        due(when + ": policyOf(" + e + ")", got.policyOf(e), want.policyOf(e));
        for (int field = -1; field <= 3; field++) {
            due(when + ": linkOf(" + e + ", " + field + ")", got.linkOf(e, field), want.linkOf(e, field));
        }
        for (int v = -1; v <= 6; v++) {
            due(when + ": limit(" + e + ", " + v + ")", got.limit(e, v), want.limit(e, v));
        }
    }

    /** Ends the test, with exit code 1 if an answer was wrong. */
    void finish() {
        clock.stop();
        System.out.println(wrong == 0 ? "all answers are as due" : wrong + " answers are not as due");
        if (wrong != 0) {
            System.exit(1);
        }
    }
}
