/**
 * A temporal network with uncertain durations, and a live dispatcher for it.
 *
 * Safety is worked out backwards from the end of the game. A position (the times given so far) is one
 * number, with a digit per event 1..N-1: 0 for no time, k + 1 for time k. Layer t of the table tells
 * which positions are safe at the beginning of round t; the layer after the last round tells which are won.
 */
public final class ControllableTime {
    public static final int OK = 0;
    public static final int NONE = 100;
    public static final int BAD_STATE = 101;
    public static final int BAD_EVENT = 102;
    public static final int BAD_BOUNDS = 103;
    public static final int CONFLICT = 104;
    public static final int REJECTED = 105;

    public static final int LOAD = 0;
    public static final int RUN = 1;
    public static final int DONE = 2;

    public static final int EAGER = 0;
    public static final int LAZY = 1;

    private static final int LEAST_EVENTS = 3;
    private static final int MOST_EVENTS = 6;
    private static final int LEAST_HORIZON = 3;
    private static final int MOST_HORIZON = 7;

    private static final int MOST_PAIRS = 36;
    /** Nine layers (rounds 0..7 and the end) of 9 to the power 5 positions. */
    private static final int MOST_CELLS = 531441;

    private static final int NO_TIME = -1;
    private static final int NO_EVENT = -1;

    private final int[] limits = new int[MOST_PAIRS];
    private final int[] activations = new int[MOST_EVENTS];
    private final int[] shortest = new int[MOST_EVENTS];
    private final int[] longest = new int[MOST_EVENTS];
    private final int[] policies = new int[MOST_EVENTS];
    private final int[] times = new int[MOST_EVENTS];

    private final boolean[] safe = new boolean[MOST_CELLS];
    /** What one unit of an event's digit adds to a position; event 0 has no digit, as its time is always 0. */
    private final int[] weights = new int[MOST_EVENTS];
    private final int[] endTimes = new int[MOST_EVENTS];

    private final int eventCount;
    private final int horizonRound;
    private final int digitValues;
    private final int positions;

    private int phase;
    private int round;

    public ControllableTime(int events, int horizon) {
        eventCount = clamp(events, LEAST_EVENTS, MOST_EVENTS);
        horizonRound = clamp(horizon, LEAST_HORIZON, MOST_HORIZON);
        digitValues = horizonRound + 2;
        int weight = 1;
        for (int e = 1; e < eventCount; e++) {
            weights[e] = weight;
            weight *= digitValues;
        }
        positions = weight;
        clearLinks();
        enterLoad();
    }

    public int addRequirement(int u, int v, int lo, int hi) {
        if (phase != LOAD) {
            return BAD_STATE;
        }
        if (!isPair(u, v)) {
            return BAD_EVENT;
        }
        if (lo < -horizonRound || lo > hi || hi > horizonRound) {
            return BAD_BOUNDS;
        }
        tighten(u, v, hi);
        tighten(v, u, -lo);
        return OK;
    }

    public int addContingent(int a, int c, int lo, int hi) {
        if (phase != LOAD) {
            return BAD_STATE;
        }
        if (!isPair(a, c) || c == 0) {
            return BAD_EVENT;
        }
        if (lo < 1 || lo > hi || hi > horizonRound) {
            return BAD_BOUNDS;
        }
        if (isContingent(c) || dependsOn(a, c)) {
            return CONFLICT;
        }
        activations[c] = a;
        shortest[c] = lo;
        longest[c] = hi;
        return OK;
    }

    public int dropRequirement(int u, int v) {
        if (phase != LOAD) {
            return BAD_STATE;
        }
        if (!isPair(u, v)) {
            return BAD_EVENT;
        }
        loosen(u, v);
        loosen(v, u);
        return OK;
    }

    public int dropContingent(int c) {
        if (phase != LOAD) {
            return BAD_STATE;
        }
        if (!isLaterEvent(c)) {
            return BAD_EVENT;
        }
        if (!isContingent(c)) {
            return CONFLICT;
        }
        activations[c] = NO_EVENT;
        return OK;
    }

    public int setPolicy(int e, int policy) {
        if (!isLaterEvent(e)) {
            return BAD_EVENT;
        }
        if (policy != EAGER && policy != LAZY) {
            return BAD_BOUNDS;
        }
        policies[e] = policy;
        return OK;
    }

    public int verdict() {
        return phase != LOAD || isAccepted() ? 1 : 0;
    }

    public int start() {
        if (phase != LOAD) {
            return BAD_STATE;
        }
        if (!isAccepted()) {
            return REJECTED;
        }
        phase = RUN;
        times[0] = 0;
        return OK;
    }

    public int reveal(int c) {
        if (phase != RUN) {
            return BAD_STATE;
        }
        if (!isLaterEvent(c) || !isContingent(c)) {
            return BAD_EVENT;
        }
        if (!isRunning(c) || elapsed(c) < shortest[c]) {
            return CONFLICT;
        }
        times[c] = round;
        return OK;
    }

    public int step() {
        if (phase != RUN) {
            return BAD_STATE;
        }
        int overdue = endOutcomes();
        int executed = makeChoices();
        if (allHaveTimes() || round == horizonRound) {
            phase = DONE;
        } else {
            round++;
        }
        return overdue + executed;
    }

    public int restart() {
        if (phase == LOAD) {
            return BAD_STATE;
        }
        enterLoad();
        return OK;
    }

    public int state() {
        return phase;
    }

    public int now() {
        return round;
    }

    public int timeOf(int e) {
        if (!isEvent(e)) {
            return BAD_EVENT;
        }
        return times[e] == NO_TIME ? NONE : times[e];
    }

    public int limit(int u, int v) {
        return isPair(u, v) ? limits[u * MOST_EVENTS + v] : BAD_EVENT;
    }

    public int linkOf(int e, int field) {
        if (!isLaterEvent(e)) {
            return BAD_EVENT;
        }
        if (field < 0 || field > 2) {
            return BAD_BOUNDS;
        }
        if (!isContingent(e)) {
            return NONE;
        }
        if (field == 0) {
            return activations[e];
        }
        return field == 1 ? shortest[e] : longest[e];
    }

    public int policyOf(int e) {
        return isLaterEvent(e) ? policies[e] : BAD_EVENT;
    }

    private static int clamp(int value, int least, int greatest) {
        if (value < least) {
            return least;
        }
        return value > greatest ? greatest : value;
    }

    private void clearLinks() {
        for (int u = 0; u < eventCount; u++) {
            activations[u] = NO_EVENT;
            policies[u] = EAGER;
            for (int v = 0; v < eventCount; v++) {
                loosen(u, v);
            }
        }
    }

    private void enterLoad() {
        phase = LOAD;
        round = 0;
        for (int e = 0; e < eventCount; e++) {
            times[e] = NO_TIME;
        }
    }

    private boolean isEvent(int e) {
        return e >= 0 && e < eventCount;
    }

    private boolean isLaterEvent(int e) {
        return e >= 1 && e < eventCount;
    }

    private boolean isPair(int u, int v) {
        return isEvent(u) && isEvent(v) && u != v;
    }

    private boolean isContingent(int e) {
        return activations[e] != NO_EVENT;
    }

    private void loosen(int u, int v) {
        limits[u * MOST_EVENTS + v] = v == 0 ? 0 : horizonRound;
    }

    private void tighten(int u, int v, int most) {
        if (most < limits[u * MOST_EVENTS + v]) {
            limits[u * MOST_EVENTS + v] = most;
        }
    }

    /** Links never close a circle, so a walk along activations has fewer steps than there are events. */
    private boolean dependsOn(int from, int c) {
        int reached = from;
        for (int steps = 0; steps < eventCount; steps++) {
            if (reached == c) {
                return true;
            }
            if (!isContingent(reached)) {
                return false;
            }
            reached = activations[reached];
        }
        return false;
    }

    private boolean isRunning(int c) {
        return times[c] == NO_TIME && times[activations[c]] != NO_TIME;
    }

    private int elapsed(int c) {
        return round - times[activations[c]];
    }

    private boolean allHaveTimes() {
        for (int e = 0; e < eventCount; e++) {
            if (times[e] == NO_TIME) {
                return false;
            }
        }
        return true;
    }

    private int endOutcomes() {
        int happened = 0;
        for (int c = 1; c < eventCount; c++) {
            if (isContingent(c) && isRunning(c) && elapsed(c) == longest[c]) {
                times[c] = round;
                happened += 1 << c;
            }
        }
        return happened;
    }

    private int makeChoices() {
        int executed = 0;
        for (int e = 1; e < eventCount; e++) {
            if (!isContingent(e) && times[e] == NO_TIME && isExecutedNow(e)) {
                times[e] = round;
                executed += 1 << e;
            }
        }
        return executed;
    }

    /**
     * The layer of the present round is written over, as its beginning is past; start works all layers out
     * anew before they are needed again.
     */
    private boolean isExecutedNow(int e) {
        foldChoices(round, e + 1);
        int declined = round * positions + presentPosition();
        int executed = declined + (round + 1) * weights[e];
        return policies[e] == EAGER ? safe[executed] : !safe[declined];
    }

    private int presentPosition() {
        int position = 0;
        for (int e = 1; e < eventCount; e++) {
            position += (times[e] + 1) * weights[e];
        }
        return position;
    }

    private boolean isAccepted() {
        judgeEnds();
        for (int t = horizonRound; t >= 0; t--) {
            foldChoices(t, 1);
            foldOutcomes(t);
        }
        return safe[0];
    }

    private void judgeEnds() {
        int layer = (horizonRound + 1) * positions;
        for (int position = 0; position < positions; position++) {
            safe[layer + position] = isWon(position);
        }
    }

    private boolean isWon(int position) {
        for (int v = 0; v < eventCount; v++) {
            endTimes[v] = timeIn(position, v);
            if (endTimes[v] == NO_TIME) {
                return false;
            }
            for (int u = 0; u < v; u++) {
                int difference = endTimes[v] - endTimes[u];
                if (difference > limits[u * MOST_EVENTS + v] || -difference > limits[v * MOST_EVENTS + u]) {
                    return false;
                }
            }
        }
        return true;
    }

    private int timeIn(int position, int e) {
        return e == 0 ? 0 : position / weights[e] % digitValues - 1;
    }

    /** The index-th of the positions in which event e (not 0) has no time. */
    private int openPosition(int index, int e) {
        int weight = weights[e];
        return index + index / weight * weight * (digitValues - 1);
    }

    /** Makes layer t tell what is safe in round t when only the choices of the events from..N-1 are left. */
    private void foldChoices(int t, int from) {
        int layer = t * positions;
        for (int cell = layer; cell < layer + positions; cell++) {
            safe[cell] = safe[cell + positions];
        }
        for (int e = eventCount - 1; e >= from; e--) {
            if (!isContingent(e)) {
                foldChoice(t, e);
            }
        }
    }

    private void foldChoice(int t, int e) {
        for (int index = 0; index < positions / digitValues; index++) {
            int declined = t * positions + openPosition(index, e);
            int executed = declined + (t + 1) * weights[e];
            safe[declined] = safe[declined] || safe[executed];
        }
    }

    /** One event after the other is as good as all at once: no outcome depends on another one of its round. */
    private void foldOutcomes(int t) {
        for (int c = 1; c < eventCount; c++) {
            if (isContingent(c)) {
                foldOutcome(t, c);
            }
        }
    }

    private void foldOutcome(int t, int c) {
        for (int index = 0; index < positions / digitValues; index++) {
            int position = openPosition(index, c);
            int begun = timeIn(position, activations[c]);
            int passed = t - begun;
            if (begun != NO_TIME && passed >= shortest[c] && passed <= longest[c]) {
                int absent = t * positions + position;
                int happened = absent + (t + 1) * weights[c];
                safe[absent] = safe[happened] && (passed == longest[c] || safe[absent]);
            }
        }
    }
}
