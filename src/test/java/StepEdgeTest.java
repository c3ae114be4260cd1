/** Promise 10, sentence by sentence: step. */
public final class StepEdgeTest {
    private static final Checks CHECKS = new Checks();

    public static void main(String[] args) {
        CHECKS.sentence("10", "the state is RUN, else BAD_STATE", StepEdgeTest::otherStates);
        CHECKS.sentence("10", "a refused call changes nothing", StepEdgeTest::refused);
        CHECKS.sentence("10", "with now - time(a) == hi of its link, gets time now", StepEdgeTest::overdue);
        CHECKS.sentence("10", "Each contingent event c without a time", StepEdgeTest::severalOverdue);
        CHECKS.sentence("10", "All other contingent events not revealed so far have thereby not happened in this round",
                StepEdgeTest::notRevealed);
        CHECKS.sentence("10", "EAGER: e is executed if the position after executing e is safe",
                StepEdgeTest::eagerAtFirstSafeRound);
        CHECKS.sentence("10", "EAGER: else declined", StepEdgeTest::eagerElseDeclined);
        CHECKS.sentence("10", "LAZY: e is declined if the position after declining e is safe",
                StepEdgeTest::lazyAtLastSafeRound);
        CHECKS.sentence("10", "LAZY: else executed", StepEdgeTest::lazyElseExecuted);
        CHECKS.sentence("10", "is safe, else declined; is safe, else executed", StepEdgeTest::onlyOneSafeChoice);
        CHECKS.sentence("10", "in increasing order of e, one choice is made", StepEdgeTest::order);
        CHECKS.sentence("10", "the choices already made in this round stand: executed", StepEdgeTest::executedStands);
        CHECKS.sentence("10", "the choices already made in this round stand: declined", StepEdgeTest::declinedStands);
        CHECKS.sentence("10", "the executable events with greater numbers still have their choice in this round",
                StepEdgeTest::greaterStillChoose);
        CHECKS.sentence("10", "free of their policies", StepEdgeTest::freeOfPolicies);
        CHECKS.sentence("10", "If now all events have a time, the state becomes DONE and now does not change",
                StepEdgeTest::allHaveTimes);
        CHECKS.sentence("10", "or now == H, the state becomes DONE and now does not change", StepEdgeTest::lastRound);
        CHECKS.sentence("10", "otherwise now grows by 1 and the state stays RUN", StepEdgeTest::goesOn);
        CHECKS.sentence("10", "the sum of 2 to the power e over all events e that got their time in this call",
                StepEdgeTest::answers);
        CHECKS.sentence("10", "events revealed before are not counted", StepEdgeTest::revealedNotCounted);
        CHECKS.sentence("10", "it is 0 if there were none", StepEdgeTest::noneCounted);
        CHECKS.sentence("10", "if the last missing events were all revealed in this round, the call answers 0 and the"
                + " state becomes DONE", StepEdgeTest::lastOnesRevealed);
        CHECKS.sentence("10", "Times already given, links, limits and policies do not change",
                StepEdgeTest::leavesTheRest);
        CHECKS.finish();
    }

    private static void due(String call, int got, int want) {
        CHECKS.due(call, got, want);
    }

    private static void steps(ControllableTime x, int... answers) {
        CHECKS.steps(x, answers);
    }

    private static void begin(ControllableTime x) {
        x.restart();
        due("start()", x.start(), 0);
    }

    private static void otherStates() {
        for (Situation from : Situation.values()) {
            ControllableTime x = from.make();
            if (from.state != 1) {
                due("step() " + from, x.step(), 101);
                due("step() again " + from, x.step(), 101);
            } else {
                due("step() " + from + " answers a set of events", x.step() < 32 ? 1 : 0, 1);
            }
        }
    }

    private static void refused() {
        for (Situation from : Situation.values()) {
            if (from.state != 1) {
                CHECKS.changesNothing("step()", from, 101, x -> x.step());
                CHECKS.changesNothing("step() twice", from, 202, x -> x.step() + x.step());
            }
        }
    }

    /** For every hi, and an activation by the origin, by a choice in round 1 and by an outcome. */
    private static void overdue() {
        for (int hi = 1; hi <= 3; hi++) {
            ControllableTime x = new ControllableTime(6, 7);
            x.addContingent(0, 1, 1, hi);
            x.addRequirement(0, 2, 1, 1);
            x.addContingent(2, 3, hi, hi);
            x.addContingent(1, 4, 1, hi);
            begin(x);
            for (int t = 0; t <= 2 * hi; t++) {
                int bits = (t == 0 ? 32 : 0) + (t == 1 ? 4 : 0) + (t == hi ? 2 : 0) + (t == hi + 1 ? 8 : 0)
                        + (t == 2 * hi ? 16 : 0);
                due("step() in round " + t + ", hi " + hi, x.step(), bits);
            }
            CHECKS.times(x, 0, hi, 1, hi + 1, 2 * hi, 0);
        }
    }

    private static void severalOverdue() {
        ControllableTime x = new ControllableTime(6, 5);
        for (int c = 1; c < 6; c++) {
            x.addContingent(0, c, 1, c < 4 ? 2 : 3);
        }
        begin(x);
        steps(x, 0, 0, 2 + 4 + 8, 16 + 32);
        begin(x);
        steps(x, 0, 0);
        due("reveal(2)", x.reveal(2), 0);
        due("reveal(5)", x.reveal(5), 0);
        steps(x, 2 + 8, 16);
        CHECKS.times(x, 0, 2, 2, 2, 3, 2);
    }

    private static void notRevealed() {
        ControllableTime x = new ControllableTime(4, 5);
        x.addContingent(0, 1, 1, 4);
        x.addContingent(0, 2, 1, 3);
        x.addRequirement(1, 3, 0, 1);
        begin(x);
        steps(x, 0, 0);
        due("reveal(2)", x.reveal(2), 0);
        steps(x, 0);
        CHECKS.times(x, 0, 100, 2, 100);
        due("reveal(1) in the next round", x.reveal(1), 0);
        CHECKS.times(x, 0, 3, 2, 100);
        steps(x, 8);
        CHECKS.times(x, 0, 3, 2, 3);
    }

    private static void eagerAtFirstSafeRound() {
        ControllableTime x = new ControllableTime(4, 6);
        x.addContingent(0, 1, 1, 4);
        x.addRequirement(1, 2, -2, 6);
        begin(x);
        steps(x, 8, 0, 4, 0, 2);
        begin(x);
        steps(x, 8);
        due("reveal(1)", x.reveal(1), 0);
        steps(x, 4);
        x.restart();
        x.addRequirement(3, 2, 2, 3);
        begin(x);
        steps(x, 8, 0, 4, 0, 2);
        for (int c = 1; c < 6; c++) {
            for (int e = 1; e < 6; e++) {
                if (c != e) {
                    eagerNearOutcome(c, e);
                }
            }
        }
        for (int first = 0; first <= 6; first++) {
            ControllableTime y = new ControllableTime(3, 6);
            y.addRequirement(0, 2, first, 6);
            begin(y);
            for (int t = 0; t <= first; t++) {
                due("step() in round " + t, y.step(), (t == 0 ? 2 : 0) + (t == first ? 4 : 0));
            }
        }
    }

    /** Whatever their numbers, e is executed in round 2, as c is in round 4 at the latest, or with c before that. */
    private static void eagerNearOutcome(int c, int e) {
        ControllableTime x = new ControllableTime(6, 6);
        x.addContingent(0, c, 1, 4);
        x.addRequirement(c, e, -2, 6);
        begin(x);
        steps(x, 62 - (1 << c) - (1 << e), 0, 1 << e, 0, 1 << c);
        begin(x);
        steps(x, 62 - (1 << c) - (1 << e));
        due("reveal(" + c + ")", x.reveal(c), 0);
        steps(x, 1 << e);
    }

    private static void eagerElseDeclined() {
        ControllableTime x = new ControllableTime(3, 5);
        x.addContingent(0, 2, 1, 5);
        x.addRequirement(2, 1, 0, 0);
        begin(x);
        steps(x, 0, 0, 0, 0, 0, 2 + 4);
        begin(x);
        steps(x, 0, 0);
        due("reveal(2)", x.reveal(2), 0);
        steps(x, 2);
        CHECKS.times(x, 0, 2, 2);
        ControllableTime y = new ControllableTime(4, 5);
        y.addContingent(1, 2, 1, 2);
        y.addRequirement(3, 2, -2, 1);
        y.addRequirement(0, 3, 3, 5);
        begin(y);
        steps(y, 2, 0, 4, 8);
        y.restart();
        y.addRequirement(1, 3, 0, 1);
        begin(y);
        steps(y, 0, 0, 2, 8, 4);
    }

    private static void lazyAtLastSafeRound() {
        for (int last = 0; last <= 6; last++) {
            ControllableTime x = new ControllableTime(3, 6);
            x.addRequirement(0, 2, 0, last);
            x.setPolicy(2, 1);
            begin(x);
            for (int t = 0; t <= last; t++) {
                due("step() in round " + t, x.step(), (t == 0 ? 2 : 0) + (t == last ? 4 : 0));
            }
            CHECKS.stateAndNow("at the end", x, 2, last);
        }
        for (int c = 1; c < 6; c++) {
            for (int e = 1; e < 6; e++) {
                if (c != e) {
                    lazyNearOutcome(c, e);
                }
            }
        }
        ControllableTime y = new ControllableTime(4, 6);
        y.addContingent(1, 2, 1, 4);
        y.setPolicy(1, 1);
        y.setPolicy(3, 1);
        begin(y);
        steps(y, 0, 0, 2, 0, 0, 0, 4 + 8);
    }

    /** Whatever their numbers, e waits for one round after c, and does not wait any longer. */
    private static void lazyNearOutcome(int c, int e) {
        ControllableTime x = new ControllableTime(6, 6);
        x.addContingent(0, c, 1, 4);
        x.addRequirement(c, e, -6, 1);
        x.setPolicy(e, 1);
        begin(x);
        steps(x, 62 - (1 << c) - (1 << e), 0, 0, 0, 1 << c, 1 << e);
        begin(x);
        steps(x, 62 - (1 << c) - (1 << e), 0);
        due("reveal(" + c + ")", x.reveal(c), 0);
        steps(x, 0, 1 << e);
    }

    private static void lazyElseExecuted() {
        ControllableTime x = new ControllableTime(4, 6);
        x.addContingent(0, 1, 2, 4);
        x.addRequirement(1, 2, 0, 1);
        x.addRequirement(3, 1, 1, 6);
        x.setPolicy(2, 1);
        x.setPolicy(3, 1);
        begin(x);
        steps(x, 0, 8);
        due("reveal(1)", x.reveal(1), 0);
        steps(x, 0, 4);
        CHECKS.times(x, 0, 2, 3, 1);
        begin(x);
        steps(x, 0, 8, 0, 0, 2, 4);
        CHECKS.times(x, 0, 4, 5, 1);
        begin(x);
        steps(x, 0, 8, 0);
        due("reveal(1)", x.reveal(1), 0);
        steps(x, 0, 4);
        CHECKS.times(x, 0, 3, 4, 1);
    }

    /**
     * Event 5 must follow the outcome 3 by 0 or 1 rounds and event 4 by 4 or 5. As 3 is 1 to 3 rounds after 2, this
     * leaves event 4 no round but the second one before 2, and event 2 none but round 2, whatever the policies are.
     */
    private static void onlyOneSafeChoice() {
        for (int policy = 0; policy <= 1; policy++) {
            ControllableTime x = new ControllableTime(6, 7);
            x.addContingent(5, 1, 2, 2);
            x.addContingent(2, 3, 1, 3);
            x.addRequirement(3, 1, 2, 3);
            x.addRequirement(5, 4, -5, -4);
            for (int e = 1; e < 6; e++) {
                x.setPolicy(e, policy);
            }
            begin(x);
            steps(x, 16, 0, 4, 0, 0, 8 + 32, 0, 2);
            begin(x);
            steps(x, 16, 0, 4);
            due("reveal(3)", x.reveal(3), 0);
            steps(x, 0, 32, 0, 2);
        }
    }

    /** Events bound to the same round: whoever chooses first decides for all, so the first in order is seen. */
    private static void order() {
        for (int u = 1; u < 5; u++) {
            for (int v = u + 1; v < 5; v++) {
                ControllableTime x = new ControllableTime(5, 3);
                x.addRequirement(u, v, 0, 0);
                x.setPolicy(u, 1);
                begin(x);
                int both = (1 << u) + (1 << v);
                steps(x, 30 - both, 0, 0, both);
                x.restart();
                x.setPolicy(u, 0);
                x.setPolicy(v, 1);
                begin(x);
                steps(x, 30);
            }
        }
    }

    private static void executedStands() {
        ControllableTime x = new ControllableTime(4, 6);
        x.addRequirement(1, 2, 1, 6);
        x.addRequirement(1, 3, 0, 2);
        x.setPolicy(3, 1);
        begin(x);
        steps(x, 2, 4, 8);
        CHECKS.times(x, 0, 0, 1, 2);
        ControllableTime y = new ControllableTime(4, 6);
        y.addRequirement(1, 2, 0, 0);
        y.addRequirement(2, 3, 0, 0);
        y.setPolicy(2, 1);
        y.setPolicy(3, 1);
        begin(y);
        steps(y, 14);
    }

    private static void declinedStands() {
        ControllableTime x = new ControllableTime(4, 4);
        x.addRequirement(1, 3, 0, 0);
        x.addRequirement(2, 3, 0, 1);
        x.setPolicy(1, 1);
        begin(x);
        steps(x, 4, 2 + 8);
        CHECKS.times(x, 0, 1, 0, 1);
        ControllableTime y = new ControllableTime(3, 4);
        y.addRequirement(2, 1, -4, 0);
        y.setPolicy(1, 1);
        begin(y);
        steps(y, 0, 0, 0, 0, 2 + 4);
        CHECKS.times(y, 0, 4, 4);
    }

    private static void greaterStillChoose() {
        ControllableTime x = new ControllableTime(4, 5);
        x.addRequirement(1, 2, 0, 0);
        x.addRequirement(1, 3, 0, 0);
        x.addRequirement(0, 1, 2, 5);
        begin(x);
        steps(x, 0, 0, 14);
        ControllableTime y = new ControllableTime(3, 5);
        y.addRequirement(0, 2, 1, 1);
        y.addRequirement(2, 1, 0, 1);
        y.setPolicy(1, 1);
        begin(y);
        steps(y, 0, 4, 2);
        CHECKS.times(y, 0, 2, 1);
    }

    private static void freeOfPolicies() {
        ControllableTime x = new ControllableTime(4, 5);
        x.addRequirement(1, 2, 0, 0);
        x.addRequirement(0, 3, 5, 5);
        x.setPolicy(2, 1);
        begin(x);
        steps(x, 2 + 4, 0, 0, 0, 0, 8);
        ControllableTime y = new ControllableTime(4, 5);
        y.addRequirement(1, 2, -1, 0);
        y.addRequirement(0, 1, 0, 3);
        y.setPolicy(1, 1);
        begin(y);
        steps(y, 4 + 8, 2);
        CHECKS.times(y, 0, 1, 0, 0);
        y.restart();
        y.addRequirement(1, 2, 0, 0);
        begin(y);
        steps(y, 8, 0, 0, 2 + 4);
        y.restart();
        y.setPolicy(1, 0);
        y.setPolicy(2, 1);
        begin(y);
        steps(y, 2 + 4 + 8);
    }

    private static void allHaveTimes() {
        for (int last = 0; last < 6; last++) {
            ControllableTime x = new ControllableTime(4, 6);
            x.addRequirement(0, 2, last, last);
            begin(x);
            for (int t = 0; t < last; t++) {
                CHECKS.stateAndNow("before the last event", x, 1, t);
                x.step();
            }
            due("step() gives the last time", x.step(), last == 0 ? 14 : 4);
            CHECKS.stateAndNow("after the last event", x, 2, last);
            CHECKS.times(x, 0, 0, last, 0);
            due("step() after it", x.step(), 101);
            CHECKS.stateAndNow("later", x, 2, last);
        }
        ControllableTime y = new ControllableTime(3, 6);
        y.addContingent(0, 1, 1, 3);
        begin(y);
        steps(y, 4, 0, 0, 2);
        CHECKS.stateAndNow("after an overdue last event", y, 2, 3);
    }

    private static void lastRound() {
        for (int h = 3; h <= 7; h++) {
            ControllableTime x = new ControllableTime(3, h);
            x.setPolicy(1, 1);
            x.addContingent(0, 2, 1, h);
            begin(x);
            for (int t = 0; t < h; t++) {
                CHECKS.stateAndNow("horizon " + h, x, 1, t);
                steps(x, 0);
            }
            CHECKS.stateAndNow("horizon " + h + ", before the last step", x, 1, h);
            steps(x, 2 + 4);
            CHECKS.stateAndNow("horizon " + h + ", after the last step", x, 2, h);
            CHECKS.times(x, 0, h, h);
            begin(x);
            for (int t = 0; t < h; t++) {
                steps(x, 0);
            }
            due("reveal(2) in round H", x.reveal(2), 0);
            steps(x, 2);
            CHECKS.stateAndNow("horizon " + h + ", after the last step", x, 2, h);
        }
    }

    private static void goesOn() {
        ControllableTime x = new ControllableTime(5, 7);
        x.addRequirement(0, 1, 2, 2);
        x.addContingent(1, 2, 3, 4);
        x.addRequirement(0, 3, 7, 7);
        begin(x);
        int[] answers = {16, 0, 2, 0, 0, 0, 4};
        for (int t = 0; t < 7; t++) {
            CHECKS.stateAndNow("before step " + t, x, 1, t);
            steps(x, answers[t]);
            CHECKS.stateAndNow("after step " + t, x, 1, t + 1);
        }
        steps(x, 8);
        CHECKS.stateAndNow("after the last step", x, 2, 7);
    }

    private static void answers() {
        for (int set = 0; set < 32; set++) {
            ControllableTime x = new ControllableTime(6, 7);
            ControllableTime y = new ControllableTime(6, 7);
            for (int e = 1; e < 6; e++) {
                int at = (set >> (e - 1) & 1) == 1 ? 2 : 3;
                x.addRequirement(0, e, at, at);
                y.addContingent(0, e, at, at);
            }
            begin(x);
            begin(y);
            steps(x, 0, 0, 2 * set);
            steps(y, 0, 0, 2 * set);
            due("step() for the rest, choices", x.step(), set == 31 ? 101 : 62 - 2 * set);
            due("step() for the rest, outcomes", y.step(), set == 31 ? 101 : 62 - 2 * set);
        }
    }

    private static void revealedNotCounted() {
        ControllableTime x = new ControllableTime(6, 7);
        x.addContingent(0, 1, 1, 2);
        x.addContingent(0, 3, 1, 2);
        x.addContingent(0, 5, 1, 2);
        x.addRequirement(1, 2, 0, 0);
        begin(x);
        steps(x, 16, 0);
        due("reveal(3)", x.reveal(3), 0);
        steps(x, 2 + 4 + 32);
        begin(x);
        steps(x, 16);
        due("reveal(1)", x.reveal(1), 0);
        due("reveal(5)", x.reveal(5), 0);
        steps(x, 4, 8);
    }

    private static void noneCounted() {
        ControllableTime x = new ControllableTime(3, 4);
        x.addContingent(0, 1, 2, 4);
        x.addRequirement(0, 2, 4, 4);
        begin(x);
        steps(x, 0, 0);
        due("reveal(1)", x.reveal(1), 0);
        steps(x, 0, 0, 4);
    }

    private static void lastOnesRevealed() {
        for (int h = 3; h <= 7; h++) {
            for (int t = 1; t <= h; t++) {
                ControllableTime x = new ControllableTime(4, h);
                x.addContingent(0, 1, 1, h);
                x.addContingent(0, 3, 1, h);
                begin(x);
                for (int k = 0; k < t; k++) {
                    due("step() in round " + k, x.step(), k == 0 ? 4 : 0);
                }
                due("reveal(3)", x.reveal(3), 0);
                due("reveal(1)", x.reveal(1), 0);
                CHECKS.stateAndNow("all revealed", x, 1, t);
                due("step() in round " + t, x.step(), 0);
                CHECKS.stateAndNow("after the step", x, 2, t);
                CHECKS.times(x, 0, t, 0, t);
            }
        }
    }

    private static void leavesTheRest() {
        for (Situation from : Situation.values()) {
            if (from.state == 1) {
                ControllableTime x = from.make();
                ControllableTime y = from.make();
                for (int k = 0; k < 7; k++) {
                    int[] before = new int[5];
                    for (int e = 0; e < 5; e++) {
                        before[e] = x.timeOf(e);
                    }
                    x.step();
                    for (int e = 0; e < 5; e++) {
                        due("timeOf(" + e + ")", before[e] == 100 ? 100 : x.timeOf(e), before[e]);
                    }
                    sameLinks(x, y);
                }
            }
        }
    }

    private static void sameLinks(ControllableTime got, ControllableTime want) {
        for (int u = 0; u < 5; u++) {
            due("policyOf(" + u + ")", got.policyOf(u), want.policyOf(u));
            for (int k = 0; k < 5; k++) {
                due("limit(" + u + ", " + k + ")", got.limit(u, k), want.limit(u, k));
                due("linkOf(" + u + ", " + k + ")", got.linkOf(u, k), want.linkOf(u, k));
            }
        }
    }
}
