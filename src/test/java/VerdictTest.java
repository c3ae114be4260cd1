/** Promises 7 and 8: which networks are accepted, and start. */
public final class VerdictTest {
    private static final Checks CHECKS = new Checks();

    public static void main(String[] args) {
        plainNetworks();
        horizonEdges();
        knowledge();
        sameRound();
        chains();
        policiesPlayNoPart();
        otherOutcomes();
        verdictFollowsEdits();
        everyEditCounts();
        startOrdinary();
        startRefused();
        CHECKS.finish();
    }

    private static void due(String call, int got, int want) {
        CHECKS.due(call, got, want);
    }

    private static void plainNetworks() {
        ControllableTime x = new ControllableTime(4, 3);
        due("nothing loaded", x.verdict(), 1);
        x.addRequirement(1, 2, 1, 1);
        x.addRequirement(2, 3, 2, 2);
        due("a chain as long as the horizon", x.verdict(), 1);
        x.addRequirement(0, 1, 1, 3);
        due("a chain beyond the horizon", x.verdict(), 0);
        x.dropRequirement(0, 1);
        x.addRequirement(3, 1, -2, 3);
        due("requirements that contradict each other", x.verdict(), 0);
        ControllableTime y = new ControllableTime(3, 3);
        y.addRequirement(0, 1, -3, -1);
        due("a time below 0", y.verdict(), 0);
    }

    private static void horizonEdges() {
        ControllableTime x = new ControllableTime(3, 4);
        x.addContingent(1, 2, 1, 4);
        due("a duration that just fits", x.verdict(), 1);
        x.addRequirement(0, 1, 1, 4);
        due("a contingent event that may not happen by the horizon", x.verdict(), 0);
        ControllableTime y = new ControllableTime(3, 4);
        y.addContingent(0, 1, 4, 4);
        y.addRequirement(0, 2, 4, 4);
        due("an outcome and a choice in the last round", y.verdict(), 1);
        y.addRequirement(1, 2, 1, 4);
        due("a choice after the last round", y.verdict(), 0);
    }

    /** A choice can follow what was seen, but never run ahead of it. */
    private static void knowledge() {
        ControllableTime x = new ControllableTime(3, 7);
        x.addContingent(0, 1, 1, 4);
        x.addRequirement(1, 2, 2, 2);
        due("exactly two rounds after the outcome", x.verdict(), 1);
        x.dropRequirement(1, 2);
        x.addRequirement(1, 2, -1, -1);
        due("exactly one round before the outcome", x.verdict(), 0);
        x.dropRequirement(1, 2);
        x.addRequirement(1, 2, -3, 0);
        due("up to three rounds before the outcome", x.verdict(), 1);
        x.addRequirement(1, 2, -3, -1);
        due("one to three rounds before the outcome, at 0 or never", x.verdict(), 0);
        x.dropContingent(1);
        due("the same, with event 1 free", x.verdict(), 1);
        x.addContingent(0, 1, 3, 4);
        due("one to three rounds before an outcome at 3 or 4", x.verdict(), 1);
        ControllableTime y = new ControllableTime(4, 7);
        y.addContingent(0, 1, 1, 3);
        y.addContingent(0, 2, 1, 3);
        y.addRequirement(1, 3, 0, 2);
        y.addRequirement(2, 3, 0, 2);
        due("after both of two outcomes, at most two apart", y.verdict(), 1);
        y.addRequirement(2, 3, 0, 1);
        due("after both of two outcomes, too near to one", y.verdict(), 0);
    }

    /** Outcomes of a round are known to its choices, and a choice to those of greater events only by plan. */
    private static void sameRound() {
        ControllableTime x = new ControllableTime(3, 5);
        x.addContingent(0, 1, 1, 3);
        x.addRequirement(1, 2, 0, 0);
        due("in the very round of the outcome", x.verdict(), 1);
        ControllableTime y = new ControllableTime(4, 5);
        y.addContingent(0, 2, 1, 3);
        y.addRequirement(2, 1, 0, 0);
        y.addRequirement(2, 3, 0, 0);
        due("lesser and greater events in the round of the outcome", y.verdict(), 1);
        ControllableTime z = new ControllableTime(4, 5);
        z.addContingent(0, 1, 1, 2);
        z.addContingent(0, 2, 1, 2);
        z.addRequirement(1, 2, 0, 0);
        due("two outcomes at the same time by luck", z.verdict(), 0);
        z.addRequirement(1, 2, -1, 1);
        due("still held to it", z.verdict(), 0);
        z.dropRequirement(1, 2);
        z.addRequirement(1, 2, -1, 1);
        due("two outcomes at most one round apart", z.verdict(), 1);
    }

    private static void chains() {
        ControllableTime x = new ControllableTime(6, 7);
        x.addContingent(0, 3, 1, 2);
        x.addContingent(3, 1, 1, 2);
        x.addContingent(1, 2, 1, 3);
        due("a chain of outcomes that just fits", x.verdict(), 1);
        x.addRequirement(0, 2, 3, 7);
        due("its whole span is allowed", x.verdict(), 1);
        x.addRequirement(0, 2, 3, 6);
        due("its longest span is not", x.verdict(), 0);
        x.dropRequirement(0, 2);
        x.addContingent(2, 4, 1, 1);
        due("a chain beyond the horizon", x.verdict(), 0);
        ControllableTime y = new ControllableTime(5, 7);
        y.addContingent(0, 1, 1, 3);
        y.addContingent(2, 3, 1, 2);
        y.addRequirement(1, 3, 0, 2);
        due("begin the second duration when the first has ended", y.verdict(), 1);
        y.addRequirement(1, 3, 0, 1);
        due("too near", y.verdict(), 0);
    }

    private static void policiesPlayNoPart() {
        ControllableTime x = new ControllableTime(3, 5);
        x.addContingent(1, 2, 1, 5);
        due("verdict()", x.verdict(), 1);
        x.setPolicy(1, 1);
        due("verdict() with LAZY", x.verdict(), 1);
        x.addRequirement(0, 1, 1, 5);
        due("verdict() with LAZY", x.verdict(), 0);
        x.setPolicy(1, 0);
        due("verdict() with EAGER", x.verdict(), 0);
    }

    /** An outcome can stand in for a choice only as far as the choice that activates it can wait. */
    private static void otherOutcomes() {
        ControllableTime x = new ControllableTime(4, 7);
        x.addContingent(0, 1, 1, 5);
        x.addContingent(2, 3, 1, 2);
        x.addRequirement(3, 1, -7, 2);
        due("a duration begun so that it ends at most two rounds before the outcome", x.verdict(), 1);
        x.addRequirement(0, 2, 0, 2);
        due("and begun in round 2 at the latest", x.verdict(), 1);
        x.addRequirement(0, 2, 0, 1);
        due("and begun in round 1 at the latest, too soon for the longest outcome", x.verdict(), 0);
        x.dropRequirement(0, 2);
        x.addRequirement(1, 2, -7, -1);
        due("begun before the outcome, and so in round 0", x.verdict(), 0);
        ControllableTime y = new ControllableTime(4, 7);
        y.addContingent(0, 1, 2, 5);
        y.addContingent(0, 2, 2, 5);
        y.addRequirement(1, 3, -3, 7);
        y.addRequirement(2, 3, -7, 0);
        due("not long before one outcome, not after the other one", y.verdict(), 1);
        y.addRequirement(1, 3, -2, 7);
        due("nearer to the first than the second allows", y.verdict(), 0);
    }

    private static void verdictFollowsEdits() {
        ControllableTime x = new ControllableTime(3, 3);
        ControllableTime y = new ControllableTime(3, 3);
        for (int k = 0; k < 3; k++) {
            due("verdict()", x.verdict(), 1);
            x.addRequirement(1, 2, 3, 3);
            x.addContingent(0, 1, 1, 1);
            due("verdict()", x.verdict(), 0);
            due("verdict() again", x.verdict(), 0);
            x.dropContingent(1);
            due("verdict()", x.verdict(), 1);
            x.addContingent(0, 1, 1, 1);
            x.dropRequirement(1, 2);
            due("verdict()", x.verdict(), 1);
            x.dropContingent(1);
            CHECKS.sameFace("verdict changes nothing", x, y);
        }
    }

    /** What was found out before an edit does not hold after it, for verdict, start and the next game alike. */
    private static void everyEditCounts() {
        ControllableTime x = new ControllableTime(3, 3);
        accepts("nothing loaded", x, 1);
        x.addRequirement(0, 1, -3, -1);
        accepts("addRequirement", x, 0);
        x.dropRequirement(1, 0);
        accepts("dropRequirement", x, 1);
        x.addRequirement(1, 2, 3, 3);
        accepts("addRequirement that can be met", x, 1);
        x.addContingent(0, 1, 1, 1);
        accepts("addContingent", x, 0);
        x.dropContingent(1);
        accepts("dropContingent", x, 1);
        x.dropRequirement(1, 2);
        x.start();
        due("step() with nothing required", x.step(), 6);
        x.restart();
        x.addRequirement(1, 2, 1, 1);
        x.start();
        due("step() with event 2 after event 1", x.step(), 2);
        due("step() with event 2 after event 1", x.step(), 4);
    }

    private static void accepts(String when, ControllableTime x, int want) {
        due("verdict() after " + when, x.verdict(), want);
        due("start() after " + when, x.start(), want == 1 ? 0 : 105);
        due("restart() after " + when, x.restart(), want == 1 ? 0 : 101);
    }

    private static void startOrdinary() {
        ControllableTime x = network();
        ControllableTime y = network();
        x.setPolicy(1, 1);
        y.setPolicy(1, 1);
        due("start()", x.start(), 0);
        due("state()", x.state(), 1);
        due("now()", x.now(), 0);
        due("timeOf(0)", x.timeOf(0), 0);
        for (int e = 1; e < 4; e++) {
            due("timeOf(" + e + ")", x.timeOf(e), 100);
            due("policyOf(" + e + ")", x.policyOf(e), y.policyOf(e));
            for (int k = 0; k < 4; k++) {
                due("linkOf(" + e + ", " + k + ")", x.linkOf(e, k), y.linkOf(e, k));
                due("limit(" + e + ", " + k + ")", x.limit(e, k), y.limit(e, k));
                due("limit(" + k + ", " + e + ")", x.limit(k, e), y.limit(k, e));
            }
        }
        due("verdict() in RUN", x.verdict(), 1);
    }

    private static ControllableTime network() {
        ControllableTime x = new ControllableTime(4, 5);
        x.addContingent(1, 2, 1, 3);
        x.addRequirement(2, 3, 0, 1);
        return x;
    }

    private static void startRefused() {
        ControllableTime x = new ControllableTime(3, 3);
        ControllableTime y = new ControllableTime(3, 3);
        x.addRequirement(0, 1, -3, -1);
        y.addRequirement(0, 1, -3, -1);
        due("start() of a network not accepted", x.start(), 105);
        CHECKS.sameFace("after a rejected start", x, y);
        due("editing goes on", x.dropRequirement(0, 1), 0);
        due("start()", x.start(), 0);
        due("start() in RUN", x.start(), 101);
        due("step()", x.step(), 6);
        due("state()", x.state(), 2);
        due("start() in DONE", x.start(), 101);
        due("verdict() in DONE", x.verdict(), 1);
        due("state()", x.state(), 2);
        due("timeOf(1)", x.timeOf(1), 0);
    }
}
