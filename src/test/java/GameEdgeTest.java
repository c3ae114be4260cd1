/** 'The game', sentence by sentence: outcomes, choices, what is known, and what is won. */
public final class GameEdgeTest {
    private static final Checks CHECKS = new Checks();

    public static void main(String[] args) {
        CHECKS.sentence("The game", "At the beginning event 0 has time 0 and no other event has a time",
                GameEdgeTest::beginning);
        CHECKS.sentence("The game", "There are rounds t = 0, 1, .., H", GameEdgeTest::rounds);
        CHECKS.sentence("The game", "If d < lo, c gets no time in this round", GameEdgeTest::beforeLo);
        CHECKS.sentence("The game", "If lo <= d < hi, the environment chooses freely", GameEdgeTest::betweenLoAndHi);
        CHECKS.sentence("The game", "If d == hi, c gets time t now", GameEdgeTest::atHi);
        CHECKS.sentence("The game", "what happens in this part never depends on events that get their time in the same"
                + " round", GameEdgeTest::noChainInARound);
        CHECKS.sentence("The game", "in increasing order of e", GameEdgeTest::increasingOrder);
        CHECKS.sentence("The game", "the outcomes of the same round included, is known", GameEdgeTest::sameRoundIsKnown);
        CHECKS.sentence("The game", "nothing later is known", GameEdgeTest::nothingLaterIsKnown);
        CHECKS.sentence("The game", "A time, once given, never changes", GameEdgeTest::timesStay);
        CHECKS.sentence("The game", "time(v) - time(u) <= limit(u,v) for all u != v", GameEdgeTest::limitsJustMet);
        CHECKS.sentence("The game", "An event without a time after round H is a loss", GameEdgeTest::timeless);
        CHECKS.sentence("The game", "also if that event is contingent", GameEdgeTest::timelessOutcome);
        CHECKS.sentence("The game", "wins against every behaviour of the environment", GameEdgeTest::everyBehaviour);
        CHECKS.sentence("The game", "Policies play no part in either notion", GameEdgeTest::policiesPlayNoPart);
        CHECKS.finish();
    }

    private static void due(String call, int got, int want) {
        CHECKS.due(call, got, want);
    }

    private static void accepts(String what, ControllableTime x, int verdict) {
        due("verdict(): " + what, x.verdict(), verdict);
        due("start(): " + what, x.start(), verdict == 1 ? 0 : 105);
        x.restart();
    }

    private static void require(ControllableTime x, int u, int v, int lo, int hi) {
        due("addRequirement(" + u + ", " + v + ", " + lo + ", " + hi + ")", x.addRequirement(u, v, lo, hi), 0);
    }

    private static void link(ControllableTime x, int a, int c, int lo, int hi) {
        due("addContingent(" + a + ", " + c + ", " + lo + ", " + hi + ")", x.addContingent(a, c, lo, hi), 0);
    }

    private static void beginning() {
        ControllableTime x = new ControllableTime(3, 3);
        link(x, 0, 1, 1, 3);
        due("start()", x.start(), 0);
        CHECKS.times(x, 0, 100, 100);
        CHECKS.steps(x, 4);
        due("event 2 is executed in round 0", x.timeOf(2), 0);
        due("the link from the origin runs since 0", x.reveal(1), 0);
        CHECKS.times(x, 0, 1, 0);
    }

    private static void rounds() {
        for (int h = 3; h <= 7; h++) {
            ControllableTime x = new ControllableTime(3, h);
            link(x, 0, 1, 1, h);
            due("start()", x.start(), 0);
            for (int t = 0; t <= h; t++) {
                CHECKS.stateAndNow("horizon " + h, x, 1, t);
                due("step() in round " + t, x.step(), t == 0 ? 4 : t == h ? 2 : 0);
            }
            CHECKS.stateAndNow("horizon " + h + " at the end", x, 2, h);
            due("there is no round after H", x.step(), 101);
            due("restart()", x.restart(), 0);
            require(x, 2, 1, -h, h);
            accepts("event 2 in any round", x, 1);
            require(x, 1, 2, 1, h);
            accepts("event 2 in round H + 1, as event 1 may be in round H", x, 0);
        }
    }

    private static void beforeLo() {
        ControllableTime x = new ControllableTime(4, 7);
        link(x, 0, 1, 3, 5);
        require(x, 2, 1, 1, 7);
        require(x, 0, 2, 2, 7);
        accepts("event 2 in round 2, as event 1 is in round 3 or later", x, 1);
        due("start()", x.start(), 0);
        for (int t = 0; t < 3; t++) {
            due("reveal(1) in round " + t, x.reveal(1), 104);
            due("step() in round " + t, x.step(), t == 0 ? 8 : t == 2 ? 4 : 0);
            due("timeOf(1)", x.timeOf(1), 100);
        }
        due("reveal(1) in round 3", x.reveal(1), 0);
        due("restart()", x.restart() + x.dropContingent(1), 0);
        link(x, 0, 1, 2, 5);
        accepts("event 2 in round 2, as event 1 may be in round 2", x, 0);
    }

    private static void betweenLoAndHi() {
        for (int d = 2; d <= 4; d++) {
            ControllableTime x = new ControllableTime(3, 6);
            link(x, 2, 1, 2, 4);
            due("start()", x.start(), 0);
            for (int t = 0; t < d; t++) {
                due("step() in round " + t, x.step(), t == 0 ? 4 : 0);
                due("event 1 has not happened", x.timeOf(1), 100);
            }
            due("reveal(1) in round " + d, x.reveal(1), 0);
            CHECKS.times(x, 0, d, 0);
        }
        ControllableTime y = new ControllableTime(3, 6);
        link(y, 0, 1, 2, 4);
        require(y, 0, 1, 3, 6);
        accepts("the environment may choose lo", y, 0);
        y.dropRequirement(0, 1);
        require(y, 0, 1, 0, 3);
        accepts("the environment may choose hi", y, 0);
        y.dropRequirement(0, 1);
        require(y, 0, 1, 2, 4);
        accepts("the environment can choose nothing else", y, 1);
    }

    private static void atHi() {
        for (int hi = 1; hi <= 5; hi++) {
            ControllableTime x = new ControllableTime(4, 6);
            link(x, 0, 1, 1, hi);
            link(x, 2, 3, hi, hi);
            require(x, 0, 2, 1, 1);
            due("start()", x.start(), 0);
            for (int t = 0; t < hi; t++) {
                due("step() in round " + t, x.step(), t == 1 ? 4 : 0);
            }
            due("step() in round hi", x.step(), hi == 1 ? 2 + 4 : 2);
            due("step() in the round after", x.step(), 8);
            CHECKS.times(x, 0, hi, 1, hi + 1);
            CHECKS.stateAndNow("at the end", x, 2, hi + 1);
        }
    }

    private static void noChainInARound() {
        ControllableTime x = new ControllableTime(5, 7);
        link(x, 0, 4, 1, 2);
        link(x, 4, 3, 1, 1);
        link(x, 3, 2, 1, 1);
        link(x, 2, 1, 1, 1);
        accepts("as each outcome takes its own round", x, 1);
        due("start()", x.start(), 0);
        CHECKS.steps(x, 0, 0, 16, 8, 4, 2);
        due("restart()", x.restart() + x.start() + x.step(), 0);
        due("reveal(4)", x.reveal(4), 0);
        due("reveal(3) in the same round", x.reveal(3), 104);
        CHECKS.steps(x, 0);
        due("reveal(3) in the next round", x.reveal(3), 0);
        due("reveal(2) in the same round", x.reveal(2), 104);
        CHECKS.steps(x, 0, 4, 2);
        ControllableTime y = new ControllableTime(4, 7);
        link(y, 1, 2, 1, 1);
        link(y, 2, 3, 1, 1);
        due("start()", y.start(), 0);
        CHECKS.steps(y, 2, 4, 8);
    }

    /** Bound to each other, the lesser event has the first choice and so decides for both. */
    private static void increasingOrder() {
        ControllableTime x = new ControllableTime(4, 3);
        require(x, 1, 2, 0, 0);
        require(x, 2, 3, 0, 0);
        x.setPolicy(1, 1);
        due("start()", x.start(), 0);
        CHECKS.steps(x, 0, 0, 0, 14);
        due("restart()", x.restart() + x.setPolicy(1, 0) + x.setPolicy(2, 1) + x.setPolicy(3, 1) + x.start(), 0);
        CHECKS.steps(x, 14);
        due("restart()", x.restart() + x.dropRequirement(1, 2) + x.setPolicy(3, 0) + x.start(), 0);
        CHECKS.steps(x, 2, 0, 0, 12);
    }

    private static void sameRoundIsKnown() {
        for (int d = 1; d <= 3; d++) {
            ControllableTime x = new ControllableTime(4, 4);
            link(x, 0, 2, 1, 3);
            require(x, 2, 1, 0, 0);
            require(x, 2, 3, 0, 0);
            accepts("executed in the very round of an outcome", x, 1);
            due("start()", x.start(), 0);
            for (int t = 0; t < d; t++) {
                CHECKS.steps(x, 0);
            }
            if (d < 3) {
                due("reveal(2)", x.reveal(2), 0);
            }
            CHECKS.steps(x, d < 3 ? 2 + 8 : 2 + 4 + 8);
            CHECKS.times(x, 0, d, d, d);
        }
    }

    private static void nothingLaterIsKnown() {
        for (int c = 1; c < 6; c++) {
            for (int e = 1; e < 6; e++) {
                if (c != e) {
                    notKnownBefore(c, e);
                }
            }
        }
        ControllableTime x = new ControllableTime(3, 5);
        link(x, 0, 1, 2, 3);
        require(x, 2, 1, 1, 1);
        accepts("one round before an outcome in round 2 or 3", x, 0);
        x.dropRequirement(1, 2);
        require(x, 2, 1, 1, 2);
        accepts("one or two rounds before an outcome in round 2 or 3", x, 1);
        x.dropRequirement(1, 2);
        x.dropContingent(1);
        link(x, 0, 1, 3, 3);
        require(x, 2, 1, 1, 1);
        accepts("one round before an outcome in round 3, as no other is left", x, 1);
        ControllableTime y = new ControllableTime(4, 5);
        link(y, 0, 1, 1, 2);
        link(y, 2, 3, 1, 1);
        require(y, 1, 3, 0, 0);
        accepts("a duration begun so as to end with an outcome not yet seen", y, 0);
        y.dropRequirement(1, 3);
        require(y, 1, 3, 1, 1);
        accepts("a duration begun in the round of an outcome", y, 1);
    }

    /** Whatever their numbers, e can follow c in the same round, but cannot be one round ahead of it. */
    private static void notKnownBefore(int c, int e) {
        ControllableTime x = new ControllableTime(6, 5);
        link(x, 0, c, 2, 4);
        require(x, c, e, 0, 0);
        accepts("event " + e + " in the round of event " + c, x, 1);
        x.dropRequirement(e, c);
        require(x, c, e, -1, -1);
        accepts("event " + e + " one round before event " + c, x, 0);
    }

    private static void timesStay() {
        ControllableTime x = new ControllableTime(5, 6);
        link(x, 0, 1, 1, 2);
        link(x, 0, 2, 2, 3);
        require(x, 0, 4, 6, 6);
        int[][] times = {{0, 100, 100, 0, 100}, {0, 1, 100, 0, 100}, {0, 1, 100, 0, 100}, {0, 1, 3, 0, 100},
            {0, 1, 3, 0, 100}, {0, 1, 3, 0, 100}, {0, 1, 3, 0, 6}};
        due("start()", x.start(), 0);
        for (int t = 0; t <= 6; t++) {
            if (t == 1) {
                due("reveal(1)", x.reveal(1), 0);
            }
            x.step();
            if (t >= 1) {
                due("reveal(1) again", x.reveal(1), t == 6 ? 101 : 104);
            }
            CHECKS.times(x, times[t]);
        }
        x.step();
        CHECKS.times(x, times[6]);
    }

    private static void limitsJustMet() {
        for (int bound = 0; bound <= 4; bound++) {
            ControllableTime x = new ControllableTime(3, 6);
            require(x, 0, 1, 1, 1);
            require(x, 0, 2, 1 + bound, 1 + bound);
            require(x, 1, 2, -6, bound);
            accepts("a difference of just the limit", x, 1);
            require(x, 1, 2, bound, bound);
            accepts("a difference of just both limits", x, 1);
            require(x, 1, 2, -6, bound - 1);
            accepts("a difference one above the limit", x, 0);
            x.dropRequirement(1, 2);
            require(x, 1, 2, bound + 1, 6);
            accepts("a difference one below the least", x, 0);
        }
    }

    /** If an event without a time broke no limit, all these would be won by never executing event 1. */
    private static void timeless() {
        ControllableTime x = new ControllableTime(3, 3);
        require(x, 0, 1, -3, -1);
        accepts("event 1 before the origin", x, 0);
        x.dropRequirement(0, 1);
        require(x, 1, 2, 3, 3);
        accepts("event 2 in round H", x, 1);
        require(x, 0, 1, 1, 3);
        accepts("event 2 beyond round H", x, 0);
        x.dropRequirement(0, 1);
        x.dropRequirement(1, 2);
        require(x, 0, 1, 3, 3);
        accepts("event 1 in round H", x, 1);
        x.setPolicy(1, 1);
        x.setPolicy(2, 1);
        due("start()", x.start(), 0);
        CHECKS.steps(x, 0, 0, 0, 2 + 4);
    }

    private static void timelessOutcome() {
        for (int h = 3; h <= 7; h++) {
            ControllableTime x = new ControllableTime(4, h);
            link(x, 1, 2, 1, h);
            accepts("an outcome that may be in round H", x, 1);
            require(x, 0, 1, 1, h);
            accepts("an outcome that may have no time after round H", x, 0);
            ControllableTime y = new ControllableTime(4, h);
            link(y, 0, 1, 1, 2);
            link(y, 1, 2, 1, h - 2);
            accepts("a second outcome that may be in round H", y, 1);
            link(y, 2, 3, 1, 1);
            accepts("a third outcome that may have no time after round H", y, 0);
        }
        ControllableTime z = new ControllableTime(3, 4);
        link(z, 1, 2, 1, 4);
        z.setPolicy(1, 1);
        due("start()", z.start(), 0);
        due("a LAZY activation does not wait, lest its outcome have no time", z.step(), 2);
    }

    private static void everyBehaviour() {
        ControllableTime x = new ControllableTime(4, 7);
        link(x, 0, 1, 1, 3);
        link(x, 0, 2, 1, 3);
        require(x, 1, 2, -2, 2);
        accepts("two outcomes at most two rounds apart, as they always are", x, 1);
        require(x, 1, 2, -1, 2);
        accepts("one behaviour of many breaks a limit", x, 0);
        x.dropRequirement(1, 2);
        require(x, 1, 2, -2, 1);
        accepts("one other behaviour of many breaks a limit", x, 0);
        ControllableTime y = new ControllableTime(4, 7);
        link(y, 0, 1, 2, 4);
        link(y, 2, 3, 1, 3);
        require(y, 3, 1, -7, 3);
        accepts("event 2 in round 0: the first lasts 4, the second 1", y, 1);
        require(y, 0, 2, 0, 0);
        accepts("and no later", y, 1);
        require(y, 3, 1, -7, 2);
        accepts("event 2 in round 0 is too early for the first to last 4 and the second 1", y, 0);
        ControllableTime z = new ControllableTime(6, 6);
        link(z, 0, 3, 1, 2);
        link(z, 3, 5, 1, 2);
        link(z, 4, 1, 1, 2);
        require(z, 5, 4, 0, 1);
        require(z, 0, 1, 4, 6);
        accepts("event 5 in rounds 2 to 4, event 4 in rounds 3 and 4, event 1 in rounds 4 to 6", z, 1);
        require(z, 0, 1, 5, 6);
        accepts("event 1 may be in round 4 if all durations are short", z, 0);
    }

    /** All policies give the same verdict, and a choice that is safe does not count on the policies of later ones. */
    private static void policiesPlayNoPart() {
        for (int set = 0; set < 8; set++) {
            ControllableTime x = new ControllableTime(4, 4);
            for (int e = 1; e < 4; e++) {
                x.setPolicy(e, set >> (e - 1) & 1);
            }
            link(x, 1, 2, 1, 4);
            accepts("event 1 must be executed in round 0", x, 1);
            require(x, 2, 3, -3, 0);
            accepts("event 3 can wait for the outcome", x, 1);
            require(x, 2, 3, -1, -1);
            accepts("event 3 cannot know the outcome", x, 0);
        }
        ControllableTime y = new ControllableTime(3, 4);
        require(y, 1, 2, 0, 0);
        y.setPolicy(2, 1);
        due("start()", y.start(), 0);
        due("EAGER event 1 goes, though event 2 is LAZY", y.step(), 6);
    }
}
