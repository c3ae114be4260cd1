import java.util.function.ToIntFunction;

/** Two objects made alike. One gets a call that must change nothing; then both get the same calls and stay alike. */
final class Twins {
    /** Later calls with all outcomes as late as can be, as soon as can be, and only edits. */
    static final int WAYS = 3;
    private static final int LATE = 0;
    private static final int EDITS_ONLY = 2;
    private static final int MOST_EVENTS = 6;
    private static final int MOST_ROUNDS = 8;

    private final Checks checks;
    private final String when;
    private final ControllableTime got;
    private final ControllableTime want;

    Twins(Checks checks, String when, ControllableTime got, ControllableTime want) {
        this.checks = checks;
        this.when = when;
        this.got = got;
        this.want = want;
    }

    void oneOnly(int answer, ToIntFunction<ControllableTime> made) {
        checks.due(when, made.applyAsInt(got), answer);
        checks.sameFace("after " + when, got, want);
    }

    private void both(String call, ToIntFunction<ControllableTime> made) {
        String later = "after " + when + ", " + call;
        checks.due(later, made.applyAsInt(got), made.applyAsInt(want));
        checks.sameFace(later, got, want);
    }

    void later(int way) {
        if (way != EDITS_ONLY) {
            games(way);
        }
        both("restart()", ControllableTime::restart);
        edits();
        games(LATE);
    }

    /** Goes on with the game that is under way, and plays one more with all policies turned round. */
    private void games(int way) {
        game(way);
        both("restart()", ControllableTime::restart);
        for (int e = 1; e < MOST_EVENTS; e++) {
            int event = e;
            int turned = want.policyOf(e) == ControllableTime.LAZY ? ControllableTime.EAGER : ControllableTime.LAZY;
            both("setPolicy(" + e + ")", x -> x.setPolicy(event, turned));
        }
        game(way);
    }

    private void game(int way) {
        both("verdict()", ControllableTime::verdict);
        both("start()", ControllableTime::start);
        for (int k = 0; k < MOST_ROUNDS; k++) {
            for (int c = 1; c < MOST_EVENTS && way != LATE; c++) {
                int event = c;
                both("reveal(" + c + ")", x -> x.reveal(event));
            }
            both("step()", ControllableTime::step);
        }
    }

    /** One more link and requirement, then all dropped, so that what lies beneath the links shows too. */
    private void edits() {
        both("addContingent(0, 4, 1, 2)", x -> x.addContingent(0, 4, 1, 2));
        both("addRequirement(0, 4, 1, 2)", x -> x.addRequirement(0, 4, 1, 2));
        both("verdict()", ControllableTime::verdict);
        for (int e = 1; e < MOST_EVENTS; e++) {
            int event = e;
            both("dropContingent(" + e + ")", x -> x.dropContingent(event));
            both("verdict()", ControllableTime::verdict);
        }
        for (int u = 0; u < MOST_EVENTS; u++) {
            for (int v = u + 1; v < MOST_EVENTS; v++) {
                int from = u;
                int to = v;
                both("dropRequirement(" + u + ", " + v + ")", x -> x.dropRequirement(from, to));
            }
        }
    }
}
