/**
 * Objects in all kinds of states, each made anew by the same calls. All have 5 events and horizon 5, and but for
 * the new one the same links: 2 happens 2 to 3 rounds after 1, 3 happens 1 round after 2, 4 is from 1 round before
 * to 2 rounds after 2; 3 and 4 are LAZY at first.
 */
enum Situation {
    NEW(ControllableTime.LOAD, 0),
    LOADED(ControllableTime.LOAD, 0),
    JUDGED(ControllableTime.LOAD, 0),
    CONTRADICTORY(ControllableTime.LOAD, 0),
    TOO_LONG(ControllableTime.LOAD, 0),
    BACK_FROM_RUN(ControllableTime.LOAD, 0),
    BACK_FROM_DONE(ControllableTime.LOAD, 0),
    BEGUN(ControllableTime.RUN, 0, 0),
    WAITING(ControllableTime.RUN, 1, 0, 0),
    REVEALED(ControllableTime.RUN, 2, 0, 0, 2),
    ALL_REVEALED(ControllableTime.RUN, 3, 0, 0, 2, 3, 2),
    LAST_ROUND(ControllableTime.RUN, 5, 0, 1, 4),
    OVER_EARLY(ControllableTime.DONE, 3, 0, 0, 2, 3, 2),
    OVER_LATE(ControllableTime.DONE, 5, 0, 1, 4, 5, 5);

    static final int EVENTS = 5;
    static final int HORIZON = 5;

    final int state;
    final int now;
    private final int[] firstTimes;

    /** The state, the round, and the times of the events 0, 1, .. as far as they have one. */
    Situation(int state, int now, int... firstTimes) {
        this.state = state;
        this.now = now;
        this.firstTimes = firstTimes;
    }

    int time(int e) {
        return e < firstTimes.length ? firstTimes[e] : ControllableTime.NONE;
    }

    boolean isContingent(int e) {
        return this != NEW && (e == 2 || e == 3);
    }

    boolean isAccepted() {
        return this != CONTRADICTORY && this != TOO_LONG;
    }

    ControllableTime make() {
        ControllableTime x = new ControllableTime(EVENTS, HORIZON);
        if (this == NEW) {
            return x;
        }
        load(x);
        switch (this) {
            case JUDGED -> x.verdict();
            case CONTRADICTORY -> contradict(x);
            case TOO_LONG -> x.addRequirement(0, 1, 2, 5);
            default -> { }
        }
        if (state != ControllableTime.LOAD || this == BACK_FROM_RUN || this == BACK_FROM_DONE) {
            play(x);
        }
        return x;
    }

    private static void load(ControllableTime x) {
        x.addContingent(1, 2, 2, 3);
        x.addContingent(2, 3, 1, 1);
        x.addRequirement(2, 4, -1, 2);
        x.setPolicy(3, ControllableTime.LAZY);
        x.setPolicy(4, ControllableTime.LAZY);
    }

    private static void contradict(ControllableTime x) {
        x.addRequirement(1, 4, 1, 1);
        x.addRequirement(1, 4, 3, 4);
    }

    private void play(ControllableTime x) {
        switch (this) {
            case BEGUN -> x.start();
            case WAITING -> playFrom(x, 1);
            case REVEALED -> {
                playFrom(x, 2);
                x.reveal(2);
            }
            case ALL_REVEALED, OVER_EARLY -> playEarly(x);
            case LAST_ROUND -> playLate(x, 5);
            case OVER_LATE -> playLate(x, 6);
            case BACK_FROM_RUN -> {
                playFrom(x, 2);
                x.reveal(2);
                x.restart();
            }
            default -> {
                playLate(x, 6);
                x.restart();
            }
        }
    }

    private static void playFrom(ControllableTime x, int steps) {
        x.start();
        for (int k = 0; k < steps; k++) {
            x.step();
        }
    }

    /** Event 1 in round 0, 2 and 4 in round 2, 3 in round 3. */
    private void playEarly(ControllableTime x) {
        x.setPolicy(4, ControllableTime.EAGER);
        playFrom(x, 2);
        x.reveal(2);
        x.step();
        x.reveal(3);
        if (this == OVER_EARLY) {
            x.step();
        }
    }

    /** Event 1 in round 1, 2 in round 4, 3 and 4 in round 5. */
    private static void playLate(ControllableTime x, int steps) {
        x.setPolicy(1, ControllableTime.LAZY);
        playFrom(x, steps);
    }
}
