/**
 * A temporal network with uncertain durations, and a live dispatcher for it.
 *
 * The positions of the game are far too many to look at in every call. Instead it is deduced, once after an
 * edit, what every way of choosing that always wins has to keep to: bounds on the difference of two events, and
 * waits of an event for a contingent one. If these contradict each other, the network is not accepted. If they
 * do not, and nothing more follows from them, a choice is safe exactly if it breaks none of them.
 */
public final class ControllableTime {
    public static final int OK = 0;
    public static final int NONE = 100;
    public static final int BAD_STATE = 101;
    public static final int BAD_EVENT = 102;
    public static final int BAD_BOUNDS = 103;
    public static final int CONFLICT = 104;
    public static final int REJECTED = 105;

    public static final int LOAD = 0;
    public static final int RUN = 1;
    public static final int DONE = 2;

    public static final int EAGER = 0;
    public static final int LAZY = 1;

    private static final int LEAST_EVENTS = 3;
    private static final int MOST_EVENTS = 6;
    private static final int LEAST_HORIZON = 3;
    private static final int MOST_HORIZON = 7;

    private static final int MOST_PAIRS = 36;
    /** Each pass but the last takes in one of 72 numbers, which stay within -7..14 unless there is a contradiction. */
    private static final int MOST_PASSES = 2000;

    private static final int NO_TIME = -1;
    private static final int NO_EVENT = -1;

    private final int[] limits = new int[MOST_PAIRS];
    private final int[] activations = new int[MOST_EVENTS];
    private final int[] shortest = new int[MOST_EVENTS];
    private final int[] longest = new int[MOST_EVENTS];
    private final int[] policies = new int[MOST_EVENTS];
    private final int[] times = new int[MOST_EVENTS];

    /** At u * MOST_EVENTS + v: the greatest time(v) - time(u) in any play of any way of choosing that always wins. */
    private final int[] bounds = new int[MOST_PAIRS];
    /** At c * MOST_EVENTS + u: while c has not happened, u must be at least so long after the activation of c. */
    private final int[] waits = new int[MOST_PAIRS];

    private final int eventCount;
    private final int horizonRound;

    private boolean isJudged;
    private boolean wasAccepted;
    private boolean hasChanged;

    private int phase;
    private int round;

    public ControllableTime(int events, int horizon) {
        eventCount = clamp(events, LEAST_EVENTS, MOST_EVENTS);
        horizonRound = clamp(horizon, LEAST_HORIZON, MOST_HORIZON);
        clearLinks();
        enterLoad();
    }

    public int addRequirement(int u, int v, int lo, int hi) {
        if (phase != LOAD) {
            return BAD_STATE;
        }
        if (!isPair(u, v)) {
            return BAD_EVENT;
        }
        if (lo < -horizonRound || lo > hi || hi > horizonRound) {
            return BAD_BOUNDS;
        }
        tighten(u, v, hi);
        tighten(v, u, -lo);
        isJudged = false;
        return OK;
    }

    public int addContingent(int a, int c, int lo, int hi) {
        if (phase != LOAD) {
            return BAD_STATE;
        }
        if (!isPair(a, c) || c == 0) {
            return BAD_EVENT;
        }
        if (lo < 1 || lo > hi || hi > horizonRound) {
            return BAD_BOUNDS;
        }
        if (isContingent(c) || dependsOn(a, c)) {
            return CONFLICT;
        }
        activations[c] = a;
        shortest[c] = lo;
        longest[c] = hi;
        isJudged = false;
        return OK;
    }

    public int dropRequirement(int u, int v) {
        if (phase != LOAD) {
            return BAD_STATE;
        }
        if (!isPair(u, v)) {
            return BAD_EVENT;
        }
        loosen(u, v);
        loosen(v, u);
        isJudged = false;
        return OK;
    }

    public int dropContingent(int c) {
        if (phase != LOAD) {
            return BAD_STATE;
        }
        if (!isLaterEvent(c)) {
            return BAD_EVENT;
        }
        if (!isContingent(c)) {
            return CONFLICT;
        }
        activations[c] = NO_EVENT;
        isJudged = false;
        return OK;
    }

    public int setPolicy(int e, int policy) {
        if (!isLaterEvent(e)) {
            return BAD_EVENT;
        }
        if (policy != EAGER && policy != LAZY) {
            return BAD_BOUNDS;
        }
        policies[e] = policy;
        return OK;
    }

    public int verdict() {
        return phase != LOAD || isAccepted() ? 1 : 0;
    }

    public int start() {
        if (phase != LOAD) {
            return BAD_STATE;
        }
        if (!isAccepted()) {
            return REJECTED;
        }
        phase = RUN;
        times[0] = 0;
        return OK;
    }

    public int reveal(int c) {
        if (phase != RUN) {
            return BAD_STATE;
        }
        if (!isLaterEvent(c) || !isContingent(c)) {
            return BAD_EVENT;
        }
        if (!isRunning(c) || elapsed(c) < shortest[c]) {
            return CONFLICT;
        }
        times[c] = round;
        return OK;
    }

    public int step() {
        if (phase != RUN) {
            return BAD_STATE;
        }
        int overdue = endOutcomes();
        int executed = makeChoices();
        if (allHaveTimes() || round == horizonRound) {
            phase = DONE;
        } else {
            round++;
        }
        return overdue + executed;
    }

    public int restart() {
        if (phase == LOAD) {
            return BAD_STATE;
        }
        enterLoad();
        return OK;
    }

    public int state() {
        return phase;
    }

    public int now() {
        return round;
    }

    public int timeOf(int e) {
        if (!isEvent(e)) {
            return BAD_EVENT;
        }
        return times[e] == NO_TIME ? NONE : times[e];
    }

    public int limit(int u, int v) {
        return isPair(u, v) ? limits[u * MOST_EVENTS + v] : BAD_EVENT;
    }

    public int linkOf(int e, int field) {
        if (!isLaterEvent(e)) {
            return BAD_EVENT;
        }
        if (field < 0 || field > 2) {
            return BAD_BOUNDS;
        }
        if (!isContingent(e)) {
            return NONE;
        }
        if (field == 0) {
            return activations[e];
        }
        return field == 1 ? shortest[e] : longest[e];
    }

    public int policyOf(int e) {
        return isLaterEvent(e) ? policies[e] : BAD_EVENT;
    }

    private static int clamp(int value, int least, int greatest) {
        if (value < least) {
            return least;
        }
        return value > greatest ? greatest : value;
    }

    private void clearLinks() {
        for (int u = 0; u < eventCount; u++) {
            activations[u] = NO_EVENT;
            policies[u] = EAGER;
            for (int v = 0; v < eventCount; v++) {
                loosen(u, v);
            }
        }
    }

    private void enterLoad() {
        phase = LOAD;
        round = 0;
        for (int e = 0; e < eventCount; e++) {
            times[e] = NO_TIME;
        }
    }

    private boolean isEvent(int e) {
        return e >= 0 && e < eventCount;
    }

    private boolean isLaterEvent(int e) {
        return e >= 1 && e < eventCount;
    }

    private boolean isPair(int u, int v) {
        return isEvent(u) && isEvent(v) && u != v;
    }

    private boolean isContingent(int e) {
        return activations[e] != NO_EVENT;
    }

    private void loosen(int u, int v) {
        limits[u * MOST_EVENTS + v] = v == 0 ? 0 : horizonRound;
    }

    private void tighten(int u, int v, int most) {
        if (most < limits[u * MOST_EVENTS + v]) {
            limits[u * MOST_EVENTS + v] = most;
        }
    }

    /** Links never close a circle, so a walk along activations has fewer steps than there are events. */
    private boolean dependsOn(int from, int c) {
        int reached = from;
        for (int steps = 0; steps < eventCount; steps++) {
            if (reached == c) {
                return true;
            }
            if (!isContingent(reached)) {
                return false;
            }
            reached = activations[reached];
        }
        return false;
    }

    private boolean isRunning(int c) {
        return times[c] == NO_TIME && times[activations[c]] != NO_TIME;
    }

    private int elapsed(int c) {
        return round - times[activations[c]];
    }

    private boolean allHaveTimes() {
        for (int e = 0; e < eventCount; e++) {
            if (times[e] == NO_TIME) {
                return false;
            }
        }
        return true;
    }

    private int endOutcomes() {
        int happened = 0;
        for (int c = 1; c < eventCount; c++) {
            if (isContingent(c) && isRunning(c) && elapsed(c) == longest[c]) {
                times[c] = round;
                happened += 1 << c;
            }
        }
        return happened;
    }

    private int makeChoices() {
        int executed = 0;
        for (int e = 1; e < eventCount; e++) {
            if (!isContingent(e) && times[e] == NO_TIME && isExecutedNow(e)) {
                times[e] = round;
                executed += 1 << e;
            }
        }
        return executed;
    }

    /** The position before the choice is safe, so where the one choice is not safe the other one is. */
    private boolean isExecutedNow(int e) {
        return policies[e] == EAGER ? canExecute(e) : !canDecline(e);
    }

    /** Waits for contingent events not activated yet need no look: the bounds to their activations say as much. */
    private boolean canExecute(int e) {
        for (int v = 0; v < eventCount; v++) {
            if (v != e && soonest(v, e) > round + bounds[e * MOST_EVENTS + v]) {
                return false;
            }
        }
        for (int c = 1; c < eventCount; c++) {
            if (isContingent(c) && isRunning(c) && elapsed(c) < waits[c * MOST_EVENTS + e]) {
                return false;
            }
        }
        return true;
    }

    /** The time of v, or the soonest time that it can still get when the choice of event e is being made. */
    private int soonest(int v, int e) {
        if (times[v] != NO_TIME) {
            return times[v];
        }
        return v > e && !isContingent(v) ? round : round + 1;
    }

    private boolean canDecline(int e) {
        for (int u = 0; u < eventCount; u++) {
            if (times[u] != NO_TIME && times[u] + bounds[u * MOST_EVENTS + e] <= round) {
                return false;
            }
        }
        return true;
    }

    private boolean isAccepted() {
        if (!isJudged) {
            loadBounds();
            loadWaits();
            wasAccepted = settle();
            isJudged = true;
        }
        return wasAccepted;
    }

    private void loadBounds() {
        for (int u = 0; u < eventCount; u++) {
            for (int v = 0; v < eventCount; v++) {
                bounds[u * MOST_EVENTS + v] = u == v ? 0 : limits[u * MOST_EVENTS + v];
            }
        }
    }

    private void loadWaits() {
        for (int c = 1; c < eventCount; c++) {
            for (int u = 0; u < eventCount; u++) {
                waits[c * MOST_EVENTS + u] = -horizonRound;
            }
            if (isContingent(c)) {
                waits[c * MOST_EVENTS + c] = longest[c];
                tightenBound(activations[c], c, longest[c]);
            }
        }
    }

    /** Deduces bounds and waits until nothing new follows; answers whether they can all be kept. */
    private boolean settle() {
        for (int pass = 0; pass < MOST_PASSES; pass++) {
            hasChanged = false;
            deduce();
            if (isContradiction()) {
                return false;
            }
            if (!hasChanged) {
                return true;
            }
        }
        return false;
    }

    private boolean isContradiction() {
        for (int u = 0; u < eventCount; u++) {
            if (bounds[u * MOST_EVENTS + u] < 0) {
                return true;
            }
        }
        return false;
    }

    private void deduce() {
        chainBounds();
        for (int c = 1; c < eventCount; c++) {
            if (isContingent(c)) {
                chainWaits(c);
                waitBeforeActivations(c);
                boundByWaits(c);
                boundByShortest(c);
            }
        }
    }

    private void tightenBound(int u, int v, int most) {
        if (most < bounds[u * MOST_EVENTS + v]) {
            bounds[u * MOST_EVENTS + v] = most;
            hasChanged = true;
        }
    }

    private void lengthenWait(int c, int u, int least) {
        if (least > waits[c * MOST_EVENTS + u]) {
            waits[c * MOST_EVENTS + u] = least;
            hasChanged = true;
        }
    }

    private void chainBounds() {
        for (int via = 0; via < eventCount; via++) {
            for (int u = 0; u < eventCount; u++) {
                for (int v = 0; v < eventCount; v++) {
                    tightenBound(u, v, bounds[u * MOST_EVENTS + via] + bounds[via * MOST_EVENTS + v]);
                }
            }
        }
    }

    /** The environment can hold c back to its longest duration, and then v waits; so u, bound to v, waits too. */
    private void chainWaits(int c) {
        for (int u = 0; u < eventCount; u++) {
            for (int v = 0; v < eventCount; v++) {
                lengthenWait(c, u, waits[c * MOST_EVENTS + v] - bounds[u * MOST_EVENTS + v]);
            }
        }
    }

    /** A contingent event that has to wait for c cannot do so itself; its activation event must, as it may be short. */
    private void waitBeforeActivations(int c) {
        for (int k = 1; k < eventCount; k++) {
            if (k != c && isContingent(k) && waits[c * MOST_EVENTS + k] > 0) {
                lengthenWait(c, activations[k], waits[c * MOST_EVENTS + k] - shortest[k]);
            }
        }
    }

    /** Before the shortest duration of c is over, a wait for c cannot end early, so it is a bound. */
    private void boundByWaits(int c) {
        for (int u = 0; u < eventCount; u++) {
            int wait = waits[c * MOST_EVENTS + u];
            int sure = wait < shortest[c] ? wait : shortest[c];
            tightenBound(u, activations[c], -sure);
        }
    }

    /** What must come before c cannot look at c first, so it must come in time for the shortest duration. */
    private void boundByShortest(int c) {
        for (int v = 0; v < eventCount; v++) {
            if (bounds[c * MOST_EVENTS + v] < 0) {
                tightenBound(activations[c], v, shortest[c] + bounds[c * MOST_EVENTS + v]);
            }
        }
    }
}
