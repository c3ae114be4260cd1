/** Promises 7, 8 and 11, sentence by sentence: verdict, start and restart. */
public final class StartEdgeTest {
    private static final Checks CHECKS = new Checks();

    public static void main(String[] args) {
        CHECKS.sentence("7", "answers 1 if the network as loaded is accepted, else 0", StartEdgeTest::verdictInLoad);
        CHECKS.sentence("7", "the network as loaded", StartEdgeTest::verdictFollowsEveryEdit);
        CHECKS.sentence("7", "In the state RUN the answer is 1", StartEdgeTest::verdictInRun);
        CHECKS.sentence("7", "In the state DONE the answer is 1", StartEdgeTest::verdictInDone);
        CHECKS.sentence("7", "It changes nothing", StartEdgeTest::verdictChangesNothing);

        CHECKS.sentence("8", "the state is LOAD, else BAD_STATE (in RUN and in DONE)", StartEdgeTest::startElsewhere);
        CHECKS.sentence("8", "the network is accepted, else REJECTED", StartEdgeTest::startRejected);
        CHECKS.sentence("8", "the state becomes RUN, now is 0", StartEdgeTest::startBegins);
        CHECKS.sentence("8", "event 0 gets time 0, no other event has a time", StartEdgeTest::startGivesOneTime);
        CHECKS.sentence("8", "Links, limits and policies do not change", StartEdgeTest::startLeavesTheRest);
        CHECKS.sentence("8", "a refused call changes nothing", StartEdgeTest::startRefused);

        CHECKS.sentence("11", "the state is RUN or DONE, else BAD_STATE", StartEdgeTest::restartInLoad);
        CHECKS.sentence("11", "from RUN: the state becomes LOAD, now becomes 0, no event has a time",
                StartEdgeTest::restartFromRun);
        CHECKS.sentence("11", "from DONE: the state becomes LOAD, now becomes 0, no event has a time",
                StartEdgeTest::restartFromDone);
        CHECKS.sentence("11", "(event 0 included)", StartEdgeTest::restartTakesTheOrigin);
        CHECKS.sentence("11", "All links, limits and policies stay", StartEdgeTest::restartLeavesTheRest);
        CHECKS.sentence("11", "a refused call changes nothing", StartEdgeTest::restartRefused);
        CHECKS.finish();
    }

    private static void due(String call, int got, int want) {
        CHECKS.due(call, got, want);
    }

    /** Pairs of networks that differ by one round: one just fits, the other one just does not. */
    private static void verdictInLoad() {
        for (Situation from : Situation.values()) {
            if (from.state == 0) {
                due("verdict() " + from, from.make().verdict(), from.isAccepted() ? 1 : 0);
            }
        }
        for (int h = 3; h <= 7; h++) {
            ControllableTime x = new ControllableTime(4, h);
            x.addRequirement(1, 2, h - 1, h - 1);
            x.addRequirement(2, 3, 1, 1);
            due("verdict() of a chain of H rounds", x.verdict(), 1);
            x.addRequirement(0, 1, 1, h);
            due("verdict() of a chain of H + 1 rounds", x.verdict(), 0);
            ControllableTime y = new ControllableTime(4, h);
            y.addContingent(0, 1, 1, h);
            y.addRequirement(2, 1, -h, h - 1);
            due("verdict() with event 2 in round 1 or at the outcome", y.verdict(), 1);
            y.addRequirement(2, 1, 0, h - 1);
            due("verdict() with event 2 in round 1 and before the outcome", y.verdict(), 1);
            y.addRequirement(2, 1, 1, h - 1);
            due("verdict() with event 2 in round 1 and a round before the outcome", y.verdict(), 0);
        }
    }

    private static void verdictFollowsEveryEdit() {
        ControllableTime x = new ControllableTime(3, 3);
        for (int k = 0; k < 3; k++) {
            due("verdict() with nothing loaded", x.verdict(), 1);
            x.addRequirement(0, 1, 3, 3);
            due("verdict() after addRequirement", x.verdict(), 1);
            x.addContingent(1, 2, 1, 1);
            due("verdict() after addContingent", x.verdict(), 0);
            x.dropContingent(2);
            due("verdict() after dropContingent", x.verdict(), 1);
            x.addContingent(1, 2, 1, 1);
            due("verdict() after addContingent", x.verdict(), 0);
            x.dropRequirement(1, 0);
            due("verdict() after dropRequirement", x.verdict(), 1);
            x.addRequirement(1, 2, 2, 3);
            due("verdict() after addRequirement", x.verdict(), 0);
            x.dropContingent(2);
            x.dropRequirement(1, 2);
        }
    }

    private static void verdictInRun() {
        ControllableTime x = new ControllableTime(4, 4);
        x.addContingent(0, 1, 1, 4);
        x.addRequirement(1, 2, -1, 0);
        due("verdict() in LOAD", x.verdict(), 1);
        due("start()", x.start(), 0);
        for (int t = 0; t <= 3; t++) {
            due("verdict() in round " + t, x.verdict(), 1);
            due("addRequirement is refused", x.addRequirement(1, 2, 4, 4), 101);
            due("verdict() in round " + t, x.verdict(), 1);
            x.step();
        }
        due("verdict() before the last outcome", x.verdict(), 1);
        due("reveal(1)", x.reveal(1), 0);
        due("verdict() after the last outcome", x.verdict(), 1);
    }

    private static void verdictInDone() {
        for (Situation from : Situation.values()) {
            if (from.state == 2) {
                ControllableTime x = from.make();
                due("verdict() " + from, x.verdict(), 1);
                due("addRequirement is refused", x.addRequirement(1, 2, 5, 5), 101);
                due("verdict() " + from, x.verdict(), 1);
                due("step() is refused", x.step(), 101);
                due("verdict() " + from, x.verdict(), 1);
            }
        }
    }

    private static void verdictChangesNothing() {
        for (Situation from : Situation.values()) {
            int verdict = from.isAccepted() ? 1 : 0;
            CHECKS.changesNothing("verdict()", from, verdict, x -> x.verdict());
            CHECKS.changesNothing("verdict() three times", from, 3 * verdict,
                    x -> x.verdict() + x.verdict() + x.verdict());
        }
    }

    private static void startElsewhere() {
        for (Situation from : Situation.values()) {
            int inLoad = from.isAccepted() ? 0 : 105;
            due("start() " + from, from.make().start(), from.state == 0 ? inLoad : 101);
        }
        ControllableTime x = new ControllableTime(3, 3);
        due("start()", x.start(), 0);
        due("start() in RUN", x.start(), 101);
        due("start() in RUN again", x.start(), 101);
        CHECKS.steps(x, 6);
        due("start() in DONE", x.start(), 101);
        CHECKS.stateAndNow("after it", x, 2, 0);
    }

    private static void startRejected() {
        ControllableTime x = new ControllableTime(3, 4);
        x.addContingent(0, 1, 1, 2);
        x.addRequirement(1, 2, -1, -1);
        due("start()", x.start(), 105);
        due("start() again", x.start(), 105);
        CHECKS.stateAndNow("after it", x, 0, 0);
        CHECKS.times(x, 100, 100, 100);
        due("step() is refused", x.step(), 101);
        due("restart() is refused", x.restart(), 101);
        due("an edit is not", x.dropRequirement(1, 2), 0);
        x.addRequirement(1, 2, -1, 0);
        due("start()", x.start(), 0);
    }

    private static void startBegins() {
        ControllableTime x = new ControllableTime(3, 4);
        x.addContingent(0, 1, 1, 4);
        for (int rounds = 0; rounds <= 5; rounds++) {
            due("start()", x.start(), 0);
            CHECKS.stateAndNow("started", x, 1, 0);
            for (int k = 0; k < rounds; k++) {
                x.step();
            }
            due("restart()", x.restart(), 0);
        }
    }

    private static void startGivesOneTime() {
        for (int n = 3; n <= 6; n++) {
            ControllableTime x = new ControllableTime(n, 4);
            x.addContingent(0, 1, 1, 4);
            for (int game = 0; game < 2; game++) {
                due("start()", x.start(), 0);
                for (int e = 0; e < n; e++) {
                    due("timeOf(" + e + ")", x.timeOf(e), e == 0 ? 0 : 100);
                }
                for (int t = 0; t <= 4; t++) {
                    x.step();
                }
                due("restart()", x.restart(), 0);
            }
        }
    }

    private static void sameLinks(ControllableTime got, ControllableTime want) {
        for (int u = 0; u < 5; u++) {
            due("policyOf(" + u + ")", got.policyOf(u), want.policyOf(u));
            for (int k = 0; k < 5; k++) {
                due("limit(" + u + ", " + k + ")", got.limit(u, k), want.limit(u, k));
                due("linkOf(" + u + ", " + k + ")", got.linkOf(u, k), want.linkOf(u, k));
            }
        }
    }

    private static void startLeavesTheRest() {
        for (Situation from : Situation.values()) {
            if (from.state == 0 && from.isAccepted()) {
                ControllableTime x = from.make();
                due("start() " + from, x.start(), 0);
                sameLinks(x, from.make());
            }
        }
    }

    private static void startRefused() {
        for (Situation from : Situation.values()) {
            if (from.state != 0 || !from.isAccepted()) {
                CHECKS.changesNothing("start()", from, from.state != 0 ? 101 : 105, x -> x.start());
            }
        }
    }

    private static void restartInLoad() {
        for (Situation from : Situation.values()) {
            ControllableTime x = from.make();
            due("restart() " + from, x.restart(), from.state == 0 ? 101 : 0);
            due("restart() after it", x.restart(), 101);
        }
    }

    private static void isBack(Situation from, ControllableTime x) {
        CHECKS.stateAndNow("restart() " + from, x, 0, 0);
        CHECKS.times(x, 100, 100, 100, 100, 100);
        due("reveal(2) is refused", x.reveal(2), 101);
        due("step() is refused", x.step(), 101);
        due("verdict()", x.verdict(), 1);
        due("an edit is allowed", x.addRequirement(0, 1, 0, 5), 0);
        due("start() " + from, x.start(), 0);
        CHECKS.stateAndNow("started again", x, 1, 0);
        CHECKS.times(x, 0, 100, 100, 100, 100);
    }

    private static void restartFromRun() {
        for (Situation from : Situation.values()) {
            if (from.state == 1) {
                ControllableTime x = from.make();
                due("restart() " + from, x.restart(), 0);
                isBack(from, x);
            }
        }
    }

    private static void restartFromDone() {
        for (Situation from : Situation.values()) {
            if (from.state == 2) {
                ControllableTime x = from.make();
                due("restart() " + from, x.restart(), 0);
                isBack(from, x);
            }
        }
    }

    private static void restartTakesTheOrigin() {
        ControllableTime x = new ControllableTime(3, 3);
        due("start()", x.start(), 0);
        due("timeOf(0) in RUN", x.timeOf(0), 0);
        due("restart()", x.restart(), 0);
        due("timeOf(0) after RUN", x.timeOf(0), 100);
        due("start() and step()", x.start() + x.step(), 6);
        due("timeOf(0) in DONE", x.timeOf(0), 0);
        due("restart()", x.restart(), 0);
        due("timeOf(0) after DONE", x.timeOf(0), 100);
    }

    private static void restartLeavesTheRest() {
        for (Situation from : Situation.values()) {
            if (from.state != 0) {
                ControllableTime x = from.make();
                x.setPolicy(1, 1);
                x.setPolicy(2, 1);
                ControllableTime y = from.make();
                y.setPolicy(1, 1);
                y.setPolicy(2, 1);
                due("restart() " + from, x.restart(), 0);
                sameLinks(x, y);
                due("policyOf(1)", x.policyOf(1), 1);
                due("linkOf(2, 2)", x.linkOf(2, 2), 3);
                due("limit(2, 4)", x.limit(2, 4), 2);
            }
        }
    }

    private static void restartRefused() {
        for (Situation from : Situation.values()) {
            if (from.state == 0) {
                CHECKS.changesNothing("restart()", from, 101, x -> x.restart());
            }
        }
    }
}
