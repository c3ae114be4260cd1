/** Promise 1 and 'Events and links', sentence by sentence: sizes, beginning, defaults. */
public final class ConstructorEdgeTest {
    private static final Checks CHECKS = new Checks();

    public static void main(String[] args) {
        CHECKS.sentence("1", "N is events clamped into 3..6", ConstructorEdgeTest::eventsInRange);
        CHECKS.sentence("1", "H is horizon clamped into 3..7", ConstructorEdgeTest::horizonInRange);
        CHECKS.sentence("1", "Below the least becomes the least", ConstructorEdgeTest::belowTheLeast);
        CHECKS.sentence("1", "above the greatest becomes the greatest", ConstructorEdgeTest::aboveTheGreatest);
        CHECKS.sentence("1", "for every int, negative ones included", ConstructorEdgeTest::everyInt);
        CHECKS.sentence("1", "N and H never change afterwards", ConstructorEdgeTest::sizesNeverChange);
        CHECKS.sentence("1", "A new object is in state LOAD, now is 0", ConstructorEdgeTest::newIsInLoad);
        CHECKS.sentence("1", "no event has a time", ConstructorEdgeTest::newHasNoTimes);
        CHECKS.sentence("1", "all limits are default", ConstructorEdgeTest::newHasDefaultLimits);
        CHECKS.sentence("1", "there is no contingent link", ConstructorEdgeTest::newHasNoLink);
        CHECKS.sentence("1", "so every event 1..N-1 is executable", ConstructorEdgeTest::newIsExecutable);
        CHECKS.sentence("1", "all policies are EAGER", ConstructorEdgeTest::newIsEager);
        CHECKS.sentence("Events and links", "There are N events, numbered 0..N-1", ConstructorEdgeTest::numbering);
        CHECKS.sentence("Events and links", "Times are whole numbers 0..H", ConstructorEdgeTest::timesUpToTheHorizon);
        CHECKS.sentence("Events and links", "its time is always 0 once running", ConstructorEdgeTest::originIsAtZero);
        CHECKS.sentence("Events and links", "H if v != 0, and 0 if v == 0", ConstructorEdgeTest::defaultsComeBack);
        CHECKS.sentence("Events and links", "with 1 <= lo <= hi <= H", ConstructorEdgeTest::allDurations);
        CHECKS.sentence("Events and links", "d is in lo..hi and is picked by the environment",
                ConstructorEdgeTest::durationsInPlay);
        CHECKS.sentence("Events and links", "The activation event may be the origin, an executable event, or another"
                + " contingent event", ConstructorEdgeTest::kindsOfActivation);
        CHECKS.finish();
    }

    private static void due(String call, int got, int want) {
        CHECKS.due(call, got, want);
    }

    /** Exactly count events: the greatest one is there and the one above it is not, for calls of all kinds. */
    private static void hasEvents(String what, ControllableTime x, int count) {
        due(what + ": timeOf(N-1)", x.timeOf(count - 1), 100);
        due(what + ": timeOf(N)", x.timeOf(count), 102);
        due(what + ": policyOf(N-1)", x.policyOf(count - 1), 0);
        due(what + ": policyOf(N)", x.policyOf(count), 102);
        due(what + ": addRequirement(0, N-1)", x.addRequirement(0, count - 1, -3, 3), 0);
        due(what + ": addRequirement(0, N)", x.addRequirement(0, count, -3, 3), 102);
        due(what + ": dropRequirement(0, N-1)", x.dropRequirement(0, count - 1), 0);
        due(what + ": start()", x.start(), 0);
        due(what + ": step() executes all but event 0", x.step(), (1 << count) - 2);
        due(what + ": restart()", x.restart(), 0);
    }

    /** Exactly the horizon: bounds reach as far and no farther, and a LAZY event waits for that round. */
    private static void hasHorizon(String what, ControllableTime x, int horizon) {
        due(what + ": limit(0, 1)", x.limit(0, 1), horizon);
        due(what + ": hi at H", x.addRequirement(0, 1, 0, horizon), 0);
        due(what + ": hi above H", x.addRequirement(0, 1, 0, horizon + 1), 103);
        due(what + ": lo at -H", x.addRequirement(0, 1, -horizon, 0) + x.dropRequirement(0, 1), 0);
        due(what + ": lo below -H", x.addRequirement(0, 1, -horizon - 1, 0), 103);
        due(what + ": duration above H", x.addContingent(0, 1, 1, horizon + 1), 103);
        due(what + ": duration H", x.addContingent(0, 1, 1, horizon) + x.dropContingent(1), 0);
        due(what + ": LAZY", x.setPolicy(1, 1) + x.start(), 0);
        for (int t = 0; t < horizon; t++) {
            x.step();
            CHECKS.stateAndNow(what, x, 1, t + 1);
        }
        due(what + ": step() in round H", x.step(), 2);
        CHECKS.stateAndNow(what + " at the end", x, 2, horizon);
        due(what + ": restart()", x.restart() + x.setPolicy(1, 0), 0);
    }

    private static void eventsInRange() {
        for (int n = 3; n <= 6; n++) {
            for (int h = 3; h <= 7; h++) {
                hasEvents("new " + n + ", " + h, new ControllableTime(n, h), n);
            }
        }
    }

    private static void horizonInRange() {
        for (int n = 3; n <= 6; n++) {
            for (int h = 3; h <= 7; h++) {
                hasHorizon("new " + n + ", " + h, new ControllableTime(n, h), h);
            }
        }
    }

    private static void belowTheLeast() {
        int[] below = {2, 1, 0};
        for (int size : below) {
            hasEvents("events " + size, new ControllableTime(size, 5), 3);
            hasHorizon("horizon " + size, new ControllableTime(4, size), 3);
        }
    }

    private static void aboveTheGreatest() {
        int[] events = {7, 8, 9, 10, 99};
        for (int size : events) {
            hasEvents("events " + size, new ControllableTime(size, 5), 6);
        }
        int[] horizons = {8, 9, 10, 99};
        for (int size : horizons) {
            hasHorizon("horizon " + size, new ControllableTime(4, size), 7);
        }
    }

    /** Among them numbers that are within the ranges once they are cut to a byte or a short, or turned positive. */
    private static void everyInt() {
        int[] small = {Checks.LEAST, Checks.LEAST + 1, Checks.LEAST + 5, -65531, -251, -8, -7, -6, -5, -4, -3, -2, -1};
        for (int size : small) {
            hasEvents("events " + size, new ControllableTime(size, 5), 3);
            hasHorizon("horizon " + size, new ControllableTime(4, size), 3);
        }
        int[] great = {260, 65541, 16777221, Checks.GREATEST - 1, Checks.GREATEST};
        for (int size : great) {
            hasEvents("events " + size, new ControllableTime(size, 5), 6);
            hasHorizon("horizon " + size, new ControllableTime(4, size), 7);
        }
        int[][] corners = {{Checks.LEAST, Checks.LEAST, 3, 3}, {Checks.LEAST, Checks.GREATEST, 3, 7},
            {Checks.GREATEST, Checks.LEAST, 6, 3}, {Checks.GREATEST, Checks.GREATEST, 6, 7}};
        for (int[] c : corners) {
            hasEvents("new " + c[0] + ", " + c[1], new ControllableTime(c[0], c[1]), c[2]);
            hasHorizon("new " + c[0] + ", " + c[1], new ControllableTime(c[0], c[1]), c[3]);
        }
    }

    private static void sizesNeverChange() {
        ControllableTime x = new ControllableTime(4, 5);
        x.addRequirement(1, 2, 1, 1);
        x.addContingent(2, 3, 1, 3);
        x.addRequirement(9, 9, 9, 9);
        due("verdict()", x.verdict(), 1);
        new ControllableTime(6, 7).start();
        for (int game = 0; game < 3; game++) {
            due("start()", x.start(), 0);
            due("timeOf(3) in RUN", x.timeOf(3), 100);
            due("timeOf(4) in RUN", x.timeOf(4), 102);
            due("limit(0, 3) in RUN", x.limit(0, 3), 5);
            for (int k = 0; k < 8; k++) {
                x.step();
            }
            due("timeOf(3) in DONE", x.timeOf(3), 4);
            due("timeOf(4) in DONE", x.timeOf(4), 102);
            due("restart()", x.restart(), 0);
        }
        due("drop all", x.dropRequirement(1, 2) + x.dropContingent(3), 0);
        hasEvents("after three games", x, 4);
        hasHorizon("after three games", x, 5);
    }

    private static void newIsInLoad() {
        for (int n = 3; n <= 6; n++) {
            for (int h = 3; h <= 7; h++) {
                ControllableTime x = new ControllableTime(n, h);
                CHECKS.stateAndNow("new " + n + ", " + h, x, 0, 0);
                due("restart() in LOAD", x.restart(), 101);
            }
        }
    }

    private static void newHasNoTimes() {
        for (int n = 3; n <= 6; n++) {
            for (int h = 3; h <= 7; h++) {
                ControllableTime x = new ControllableTime(n, h);
                for (int e = 0; e < n; e++) {
                    due("timeOf(" + e + ")", x.timeOf(e), 100);
                }
            }
        }
    }

    private static void defaultLimits(String when, ControllableTime x, int n, int h) {
        for (int u = 0; u < n; u++) {
            for (int v = 1; v < n; v++) {
                due(when + " limit(" + u + ", " + v + ")", x.limit(u, v), u == v ? 102 : h);
            }
            due(when + " limit(" + u + ", 0)", x.limit(u, 0), u == 0 ? 102 : 0);
        }
    }

    private static void newHasDefaultLimits() {
        for (int n = 3; n <= 6; n++) {
            for (int h = 3; h <= 7; h++) {
                defaultLimits("new " + n + ", " + h, new ControllableTime(n, h), n, h);
            }
        }
    }

    private static void newHasNoLink() {
        for (int n = 3; n <= 6; n++) {
            ControllableTime x = new ControllableTime(n, 7);
            for (int e = 1; e < n; e++) {
                for (int field = 0; field < 3; field++) {
                    due("linkOf(" + e + ", " + field + ")", x.linkOf(e, field), 100);
                }
                due("dropContingent(" + e + ")", x.dropContingent(e), 104);
            }
        }
    }

    private static void newIsExecutable() {
        for (int n = 3; n <= 6; n++) {
            ControllableTime x = new ControllableTime(n, 7);
            due("verdict()", x.verdict(), 1);
            due("start()", x.start(), 0);
            for (int e = 1; e < n; e++) {
                due("reveal(" + e + ")", x.reveal(e), 102);
            }
            due("step()", x.step(), (1 << n) - 2);
        }
    }

    private static void newIsEager() {
        for (int n = 3; n <= 6; n++) {
            ControllableTime x = new ControllableTime(n, 3);
            for (int e = 1; e < n; e++) {
                due("policyOf(" + e + ")", x.policyOf(e), 0);
            }
            due("start()", x.start(), 0);
            due("step()", x.step(), (1 << n) - 2);
            CHECKS.stateAndNow("all executed in round 0", x, 2, 0);
        }
    }

    private static void numbering() {
        for (int n = 3; n <= 6; n++) {
            ControllableTime x = new ControllableTime(n, 4);
            for (int e = 0; e < n; e++) {
                due("timeOf(" + e + ") of " + n, x.timeOf(e), 100);
            }
            for (int e = n; e <= 8; e++) {
                due("timeOf(" + e + ") of " + n, x.timeOf(e), 102);
            }
            due("timeOf(-1) of " + n, x.timeOf(-1), 102);
        }
    }

    private static void timesUpToTheHorizon() {
        for (int h = 3; h <= 7; h++) {
            ControllableTime x = new ControllableTime(3, h);
            due("event 2 LAZY", x.setPolicy(2, 1) + x.start(), 0);
            for (int k = 0; k <= h; k++) {
                due("timeOf(2) before the last round", x.timeOf(2), 100);
                x.step();
            }
            CHECKS.times(x, 0, 0, h);
        }
    }

    private static void originIsAtZero() {
        ControllableTime x = new ControllableTime(3, 4);
        x.addContingent(0, 1, 1, 4);
        x.setPolicy(2, 1);
        for (int game = 0; game < 2; game++) {
            due("start()", x.start(), 0);
            for (int t = 0; t <= 4; t++) {
                due("timeOf(0) in round " + t, x.timeOf(0), 0);
                due("step() never counts event 0", x.step(), t == 4 ? 2 + 4 : 0);
            }
            due("timeOf(0) in DONE", x.timeOf(0), 0);
            due("restart()", x.restart(), 0);
        }
    }

    private static void defaultsComeBack() {
        for (int n = 3; n <= 6; n++) {
            for (int h = 3; h <= 7; h++) {
                ControllableTime x = new ControllableTime(n, h);
                for (int u = 0; u < n; u++) {
                    for (int v = 0; v < n; v++) {
                        x.addRequirement(u, v, -1, -1);
                    }
                }
                for (int u = 0; u < n; u++) {
                    for (int v = 0; v < u; v++) {
                        due("dropRequirement(" + u + ", " + v + ")", x.dropRequirement(u, v), 0);
                    }
                }
                defaultLimits("all dropped, " + n + ", " + h, x, n, h);
            }
        }
    }

    private static void allDurations() {
        for (int h = 3; h <= 7; h++) {
            ControllableTime x = new ControllableTime(3, h);
            for (int lo = -1; lo <= h + 1; lo++) {
                for (int hi = -1; hi <= h + 1; hi++) {
                    boolean fits = 1 <= lo && lo <= hi && hi <= h;
                    due("addContingent(0, 1, " + lo + ", " + hi + ")", x.addContingent(0, 1, lo, hi), fits ? 0 : 103);
                    due("linkOf(1, 1)", x.linkOf(1, 1), fits ? lo : 100);
                    due("linkOf(1, 2)", x.linkOf(1, 2), fits ? hi : 100);
                    due("dropContingent(1)", x.dropContingent(1), fits ? 0 : 104);
                }
            }
        }
    }

    /** For each lo and hi: an outcome is refused before lo, taken from lo on, and there by itself at hi. */
    private static void durationsInPlay() {
        for (int lo = 1; lo <= 5; lo++) {
            for (int hi = lo; hi <= 5; hi++) {
                for (int d = lo; d <= hi; d++) {
                    outcomeAfter(lo, hi, d);
                }
            }
        }
    }

    private static void outcomeAfter(int lo, int hi, int d) {
        ControllableTime x = new ControllableTime(3, 5);
        String link = "link " + lo + ".." + hi + " ends after " + d;
        due(link + ", loaded and started", x.addContingent(0, 1, lo, hi) + x.start(), 0);
        for (int t = 0; t < d; t++) {
            if (t < lo) {
                due(link + ", too early", x.reveal(1), 104);
            }
            due(link + ", step()", x.step(), t == 0 ? 4 : 0);
            due(link + ", no time yet", x.timeOf(1), 100);
        }
        if (d < hi) {
            due(link + ", reveal(1)", x.reveal(1), 0);
        }
        due(link + ", step()", x.step(), d < hi ? 0 : 2);
        due(link + ", timeOf(1)", x.timeOf(1), d);
        CHECKS.stateAndNow(link, x, 2, d);
    }

    private static void kindsOfActivation() {
        ControllableTime x = new ControllableTime(5, 7);
        due("after the origin", x.addContingent(0, 1, 2, 2), 0);
        due("after a contingent event", x.addContingent(1, 2, 1, 1), 0);
        due("after an executable event", x.addContingent(4, 3, 1, 2), 0);
        due("execute event 4 late", x.addRequirement(0, 4, 3, 3), 0);
        due("linkOf(1, 0)", x.linkOf(1, 0), 0);
        due("linkOf(2, 0)", x.linkOf(2, 0), 1);
        due("linkOf(3, 0)", x.linkOf(3, 0), 4);
        due("start()", x.start(), 0);
        CHECKS.steps(x, 0, 0, 2, 4 + 16, 0, 8);
        CHECKS.times(x, 0, 2, 3, 5, 3);
    }
}
