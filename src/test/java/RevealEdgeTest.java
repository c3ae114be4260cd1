/** Promise 9, sentence by sentence: reveal. */
public final class RevealEdgeTest {
    private static final Checks CHECKS = new Checks();

    public static void main(String[] args) {
        CHECKS.sentence("9", "the state is RUN, else BAD_STATE", RevealEdgeTest::otherStates);
        CHECKS.sentence("9", "c is in 1..N-1, else BAD_EVENT", RevealEdgeTest::outsideEvents);
        CHECKS.sentence("9", "and c is contingent, else BAD_EVENT", RevealEdgeTest::executableEvents);
        CHECKS.sentence("9", "c has no time yet, else CONFLICT", RevealEdgeTest::hasATime);
        CHECKS.sentence("9", "the activation event a of c has a time, else CONFLICT", RevealEdgeTest::notActivated);
        CHECKS.sentence("9", "now - time(a) >= lo of its link, else CONFLICT", RevealEdgeTest::beforeLo);
        CHECKS.sentence("9", "the order of the conditions", RevealEdgeTest::order);
        CHECKS.sentence("9", "Then c gets time now", RevealEdgeTest::getsTimeNow);
        CHECKS.sentence("9", "The state and now do not change", RevealEdgeTest::stateAndNowStay);
        CHECKS.sentence("9", "even if all events now have a time", RevealEdgeTest::lastOne);
        CHECKS.sentence("9", "Other times, links, limits and policies do not change", RevealEdgeTest::leavesTheRest);
        CHECKS.sentence("9", "Several events can be revealed in the same round, one call each", RevealEdgeTest::several);
        CHECKS.sentence("9", "a refused call changes nothing", RevealEdgeTest::refused);
        CHECKS.finish();
    }

    private static void due(String call, int got, int want) {
        CHECKS.due(call, got, want);
    }

    private static void reveal(ControllableTime x, int c, int answer) {
        due("reveal(" + c + ")", x.reveal(c), answer);
    }

    private static void otherStates() {
        int[] events = {Checks.LEAST, -1, 0, 1, 2, 3, 4, 5, Checks.GREATEST};
        for (Situation from : Situation.values()) {
            ControllableTime x = from.make();
            for (int c : events) {
                if (from.state != 1) {
                    due("reveal(" + c + ") " + from, x.reveal(c), 101);
                }
            }
        }
        ControllableTime y = new ControllableTime(3, 3);
        y.addContingent(0, 1, 1, 1);
        reveal(y, 1, 101);
        due("start()", y.start(), 0);
        reveal(y, 1, 104);
        CHECKS.steps(y, 4);
        reveal(y, 1, 0);
        CHECKS.steps(y, 0);
        reveal(y, 1, 101);
        due("restart()", y.restart(), 0);
        reveal(y, 1, 101);
    }

    private static void outsideEvents() {
        for (int n = 3; n <= 6; n++) {
            ControllableTime x = new ControllableTime(n, 5);
            for (int c = 1; c < n; c++) {
                x.addContingent(0, c, 1, 2);
            }
            due("start()", x.start(), 0);
            CHECKS.steps(x, 0);
            int[] outside = {Checks.LEAST, Checks.LEAST + 1, -n, -1, 0, n, n + 1, 36, Checks.GREATEST};
            for (int c : outside) {
                reveal(x, c, 102);
            }
            reveal(x, 1, 0);
            reveal(x, n - 1, 0);
        }
    }

    private static void executableEvents() {
        ControllableTime x = new ControllableTime(5, 5);
        x.addContingent(1, 2, 1, 2);
        x.setPolicy(3, 1);
        due("start()", x.start(), 0);
        reveal(x, 1, 102);
        reveal(x, 3, 102);
        CHECKS.steps(x, 2 + 16);
        reveal(x, 1, 102);
        reveal(x, 3, 102);
        reveal(x, 4, 102);
        CHECKS.times(x, 0, 0, 100, 100, 0);
        due("restart()", x.restart() + x.dropContingent(2) + x.start(), 0);
        reveal(x, 2, 102);
        due("timeOf(2)", x.timeOf(2), 100);
    }

    private static void hasATime() {
        ControllableTime x = new ControllableTime(5, 6);
        x.addContingent(0, 1, 1, 3);
        x.addContingent(0, 2, 1, 1);
        x.addRequirement(0, 3, 5, 5);
        due("start()", x.start(), 0);
        CHECKS.steps(x, 16);
        reveal(x, 1, 0);
        reveal(x, 1, 104);
        CHECKS.steps(x, 4);
        for (int t = 2; t <= 4; t++) {
            reveal(x, 1, 104);
            reveal(x, 2, 104);
            CHECKS.times(x, 0, 1, 1, 100, 0);
            CHECKS.steps(x, 0);
        }
    }

    private static void notActivated() {
        ControllableTime x = new ControllableTime(5, 7);
        x.addRequirement(0, 1, 2, 2);
        x.addContingent(1, 2, 1, 2);
        x.addContingent(2, 3, 1, 2);
        due("start()", x.start(), 0);
        for (int t = 0; t < 3; t++) {
            reveal(x, 2, 104);
            reveal(x, 3, 104);
            CHECKS.steps(x, t == 0 ? 16 : t == 2 ? 2 : 0);
        }
        reveal(x, 3, 104);
        CHECKS.steps(x, 0);
        reveal(x, 3, 104);
        reveal(x, 2, 0);
        reveal(x, 3, 104);
        CHECKS.steps(x, 0);
        reveal(x, 3, 0);
        CHECKS.times(x, 0, 2, 4, 5, 0);
    }

    /** For every lo, and an activation in round 0 or in round 1. */
    private static void beforeLo() {
        for (int begin = 0; begin <= 1; begin++) {
            for (int lo = 1; lo <= 6 - begin; lo++) {
                ControllableTime x = new ControllableTime(3, 7);
                x.addContingent(1, 2, lo, 6);
                x.addRequirement(0, 1, begin, begin);
                due("start()", x.start(), 0);
                for (int t = 0; t < begin + lo; t++) {
                    reveal(x, 2, 104);
                    due("timeOf(2)", x.timeOf(2), 100);
                    CHECKS.steps(x, t == begin ? 2 : 0);
                }
                reveal(x, 2, 0);
                due("timeOf(2)", x.timeOf(2), begin + lo);
            }
        }
    }

    private static void order() {
        ControllableTime x = new ControllableTime(3, 4);
        x.addContingent(1, 2, 2, 3);
        reveal(x, 0, 101);
        reveal(x, 1, 101);
        reveal(x, 2, 101);
        reveal(x, 3, 101);
        due("start()", x.start(), 0);
        reveal(x, 0, 102);
        CHECKS.steps(x, 2);
        reveal(x, 1, 102);
        reveal(x, 2, 104);
        CHECKS.steps(x, 0, 0, 4);
        due("state()", x.state(), 2);
        reveal(x, 0, 101);
        reveal(x, 1, 101);
        reveal(x, 2, 101);
        reveal(x, Checks.GREATEST, 101);
    }

    private static void getsTimeNow() {
        for (int d = 1; d <= 5; d++) {
            ControllableTime x = new ControllableTime(3, 5);
            x.addContingent(0, 2, 1, 5);
            due("start()", x.start(), 0);
            for (int t = 0; t < d; t++) {
                x.step();
            }
            due("timeOf(2) before", x.timeOf(2), 100);
            reveal(x, 2, 0);
            due("timeOf(2) after", x.timeOf(2), d);
        }
    }

    private static void stateAndNowStay() {
        ControllableTime x = new ControllableTime(4, 5);
        x.addContingent(0, 1, 1, 5);
        x.addContingent(0, 2, 2, 5);
        due("start()", x.start(), 0);
        CHECKS.steps(x, 8);
        CHECKS.stateAndNow("before", x, 1, 1);
        reveal(x, 1, 0);
        CHECKS.stateAndNow("after", x, 1, 1);
        CHECKS.steps(x, 0);
        CHECKS.stateAndNow("in the next round", x, 1, 2);
    }

    private static void lastOne() {
        for (int h = 3; h <= 7; h++) {
            for (int d = 1; d <= h; d++) {
                ControllableTime x = new ControllableTime(3, h);
                x.addContingent(0, 1, 1, h);
                due("start()", x.start(), 0);
                for (int t = 0; t < d; t++) {
                    due("step() in round " + t, x.step(), t == 0 ? 4 : 0);
                }
                reveal(x, 1, 0);
                CHECKS.times(x, 0, d, 0);
                CHECKS.stateAndNow("all have a time", x, 1, d);
                due("verdict()", x.verdict(), 1);
                due("start() is refused", x.start(), 101);
                reveal(x, 1, 104);
                CHECKS.steps(x, 0);
                CHECKS.stateAndNow("after the step", x, 2, d);
            }
        }
    }

    private static void leavesTheRest() {
        ControllableTime x = Situation.WAITING.make();
        ControllableTime y = Situation.WAITING.make();
        due("step()", x.step() + y.step(), 0);
        reveal(x, 2, 0);
        CHECKS.times(x, 0, 0, 2, 100, 100);
        for (int u = 0; u < 5; u++) {
            due("policyOf(" + u + ")", x.policyOf(u), y.policyOf(u));
            for (int k = 0; k < 5; k++) {
                due("limit(" + u + ", " + k + ")", x.limit(u, k), y.limit(u, k));
                due("linkOf(" + u + ", " + k + ")", x.linkOf(u, k), y.linkOf(u, k));
            }
        }
    }

    private static void several() {
        ControllableTime x = new ControllableTime(6, 7);
        for (int c = 1; c < 6; c++) {
            x.addContingent(0, c, 1, 3);
        }
        due("start()", x.start(), 0);
        CHECKS.steps(x, 0);
        reveal(x, 4, 0);
        reveal(x, 1, 0);
        CHECKS.times(x, 0, 1, 100, 100, 1, 100);
        CHECKS.steps(x, 0);
        reveal(x, 5, 0);
        CHECKS.times(x, 0, 1, 100, 100, 1, 2);
        CHECKS.steps(x, 0, 4 + 8);
        due("restart() and start()", x.restart() + x.start() + x.step(), 0);
        for (int c = 5; c >= 1; c--) {
            reveal(x, c, 0);
        }
        CHECKS.times(x, 0, 1, 1, 1, 1, 1);
        CHECKS.steps(x, 0);
    }

    private static void refused() {
        for (Situation from : Situation.values()) {
            boolean run = from.state == 1;
            CHECKS.changesNothing("reveal(0)", from, run ? 102 : 101, x -> x.reveal(0));
            CHECKS.changesNothing("reveal(5)", from, run ? 102 : 101, x -> x.reveal(5));
            CHECKS.changesNothing("reveal(1)", from, run ? 102 : 101, x -> x.reveal(1));
            CHECKS.changesNothing("reveal(4)", from, run ? 102 : 101, x -> x.reveal(4));
            CHECKS.changesNothing("reveal(2)", from, run ? 104 : 101, x -> x.reveal(2));
            if (from != Situation.LAST_ROUND) {
                CHECKS.changesNothing("reveal(3)", from, run ? 104 : 101, x -> x.reveal(3));
            }
        }
    }
}
