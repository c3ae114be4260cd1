/** Promises 9 to 11: reveal, step and restart. */
public final class PlayTest {
    private static final Checks CHECKS = new Checks();

    public static void main(String[] args) {
        revealOrdinary();
        revealRefused();
        revealSeveral();
        stepOverdue();
        stepEager();
        stepLazy();
        stepMixed();
        stepAdapts();
        stepLeavesLaterEventsFree();
        stepEndings();
        stepRefused();
        restartOrdinary();
        CHECKS.finish();
    }

    private static void due(String call, int got, int want) {
        CHECKS.due(call, got, want);
    }

    private static void steps(ControllableTime x, int... answers) {
        CHECKS.steps(x, answers);
    }

    private static void times(ControllableTime x, int... want) {
        CHECKS.times(x, want);
    }

    private static void revealOrdinary() {
        ControllableTime x = new ControllableTime(3, 6);
        x.addContingent(0, 1, 2, 4);
        x.addContingent(1, 2, 1, 2);
        x.start();
        due("reveal(1) in round 0", x.reveal(1), 104);
        steps(x, 0);
        due("reveal(1) one below lo", x.reveal(1), 104);
        steps(x, 0);
        due("reveal(1) at lo", x.reveal(1), 0);
        due("timeOf(1)", x.timeOf(1), 2);
        due("state()", x.state(), 1);
        due("now()", x.now(), 2);
        due("reveal(1) again", x.reveal(1), 104);
        due("reveal(2) in the round of its activation", x.reveal(2), 104);
        due("timeOf(2)", x.timeOf(2), 100);
        steps(x, 0, 0);
        due("now()", x.now(), 4);
        due("reveal(2) at hi", x.reveal(2), 0);
        due("state() with all times given", x.state(), 1);
        due("now()", x.now(), 4);
        steps(x, 0);
        due("state()", x.state(), 2);
        due("now()", x.now(), 4);
        times(x, 0, 2, 4);
    }

    private static void revealRefused() {
        ControllableTime x = new ControllableTime(4, 5);
        x.addContingent(1, 2, 1, 2);
        x.addRequirement(0, 1, 1, 3);
        ControllableTime y = new ControllableTime(4, 5);
        y.addContingent(1, 2, 1, 2);
        y.addRequirement(0, 1, 1, 3);
        due("reveal(2) in LOAD", x.reveal(2), 101);
        due("reveal(9) in LOAD", x.reveal(9), 101);
        x.start();
        y.start();
        int[] wrong = {Integer.MIN_VALUE, -1, 0, 1, 3, 4, Integer.MAX_VALUE};
        for (int c : wrong) {
            due("reveal(" + c + ")", x.reveal(c), 102);
        }
        due("reveal(2) without its activation", x.reveal(2), 104);
        CHECKS.sameFace("after refused reveals", x, y);
        steps(x, 8, 2);
        due("reveal(1), executed", x.reveal(1), 102);
        due("reveal(2)", x.reveal(2), 0);
        steps(x, 0);
        due("reveal(2) in DONE", x.reveal(2), 101);
        due("reveal(0) in DONE", x.reveal(0), 101);
    }

    private static void revealSeveral() {
        ControllableTime x = new ControllableTime(5, 5);
        x.addContingent(0, 1, 1, 3);
        x.addContingent(0, 3, 1, 4);
        x.addContingent(2, 4, 1, 3);
        x.start();
        steps(x, 4);
        due("reveal(3)", x.reveal(3), 0);
        due("reveal(1)", x.reveal(1), 0);
        times(x, 0, 1, 0, 1, 100);
        due("reveal(4)", x.reveal(4), 0);
        times(x, 0, 1, 0, 1, 1);
        due("now()", x.now(), 1);
        steps(x, 0);
        due("state()", x.state(), 2);
    }

    private static void stepOverdue() {
        ControllableTime x = new ControllableTime(5, 7);
        x.addContingent(0, 4, 1, 2);
        x.addContingent(4, 1, 1, 1);
        x.addContingent(0, 2, 1, 2);
        x.start();
        steps(x, 8, 0, 16 + 4);
        times(x, 0, 100, 2, 0, 2);
        due("now()", x.now(), 3);
        steps(x, 2);
        times(x, 0, 3, 2, 0, 2);
        due("state()", x.state(), 2);
        due("now()", x.now(), 3);
    }

    private static void stepEager() {
        ControllableTime x = new ControllableTime(4, 7);
        x.addContingent(1, 2, 2, 4);
        x.addRequirement(2, 3, -1, 1);
        x.start();
        steps(x, 2, 0, 0, 8, 4);
        times(x, 0, 0, 4, 3);
        due("state()", x.state(), 2);
        ControllableTime y = new ControllableTime(4, 5);
        y.addRequirement(0, 1, 2, 5);
        y.addRequirement(1, 2, -1, -1);
        y.addRequirement(3, 1, 1, 1);
        y.start();
        steps(y, 0, 4 + 8, 2);
        due("now()", y.now(), 2);
    }

    private static void stepLazy() {
        ControllableTime x = new ControllableTime(4, 5);
        for (int e = 1; e < 4; e++) {
            x.setPolicy(e, 1);
        }
        x.addRequirement(0, 1, 0, 3);
        x.addRequirement(2, 1, 1, 4);
        x.start();
        steps(x, 0, 0, 4, 2, 0, 8);
        due("state()", x.state(), 2);
        due("now()", x.now(), 5);
        times(x, 0, 3, 2, 5);
    }

    private static void stepMixed() {
        ControllableTime x = new ControllableTime(3, 5);
        x.setPolicy(1, 1);
        x.addRequirement(1, 2, -1, 1);
        x.start();
        steps(x, 4, 2);
        times(x, 0, 1, 0);
        x.restart();
        x.setPolicy(1, 0);
        x.setPolicy(2, 1);
        x.start();
        steps(x, 2, 4);
        times(x, 0, 0, 1);
        x.restart();
        x.addContingent(1, 2, 1, 5);
        x.dropRequirement(1, 2);
        x.setPolicy(1, 1);
        x.start();
        steps(x, 2, 0, 0, 0, 0, 4);
        times(x, 0, 0, 5);
    }

    /** What is safe depends on the outcomes seen, those of the present round included. */
    private static void stepAdapts() {
        ControllableTime x = new ControllableTime(4, 7);
        x.addContingent(0, 1, 1, 4);
        x.addRequirement(1, 2, 0, 1);
        x.addRequirement(3, 2, 0, 3);
        x.start();
        steps(x, 0, 8);
        due("reveal(1)", x.reveal(1), 0);
        steps(x, 4);
        times(x, 0, 2, 2, 1);
        x.restart();
        x.setPolicy(2, 1);
        x.start();
        steps(x, 0, 8);
        due("reveal(1)", x.reveal(1), 0);
        steps(x, 0, 4);
        times(x, 0, 2, 3, 1);
        x.restart();
        x.start();
        steps(x, 0, 8, 0, 0, 2 + 4);
        times(x, 0, 4, 4, 1);
        x.restart();
        x.start();
        steps(x, 0);
        due("reveal(1)", x.reveal(1), 0);
        steps(x, 8, 4);
        times(x, 0, 1, 2, 1);
    }

    /** A LAZY lesser event may rely on a greater one of the same round, whatever that one's policy is. */
    private static void stepLeavesLaterEventsFree() {
        ControllableTime x = new ControllableTime(3, 4);
        x.addRequirement(1, 2, 0, 0);
        x.setPolicy(2, 1);
        x.start();
        steps(x, 2 + 4);
        x.restart();
        x.setPolicy(1, 1);
        x.setPolicy(2, 0);
        x.start();
        steps(x, 0, 0, 0, 0, 2 + 4);
        times(x, 0, 4, 4);
        due("now()", x.now(), 4);
        ControllableTime y = new ControllableTime(4, 4);
        y.addRequirement(1, 2, -4, -1);
        y.addRequirement(2, 3, 0, 0);
        y.start();
        steps(y, 4 + 8, 2);
        times(y, 0, 1, 0, 0);
    }

    private static void stepEndings() {
        ControllableTime x = new ControllableTime(3, 3);
        x.start();
        steps(x, 6);
        due("state() after all were executed at once", x.state(), 2);
        due("now()", x.now(), 0);
        ControllableTime y = new ControllableTime(3, 3);
        y.addRequirement(0, 1, 3, 3);
        y.addContingent(0, 2, 3, 3);
        y.start();
        for (int t = 0; t < 3; t++) {
            due("now()", y.now(), t);
            due("state()", y.state(), 1);
            steps(y, 0);
        }
        due("state() in the last round", y.state(), 1);
        due("now()", y.now(), 3);
        due("reveal(2)", y.reveal(2), 0);
        steps(y, 2);
        due("state()", y.state(), 2);
        due("now()", y.now(), 3);
        times(y, 0, 3, 3);
    }

    private static void stepRefused() {
        ControllableTime x = new ControllableTime(3, 3);
        ControllableTime y = new ControllableTime(3, 3);
        due("step() in LOAD", x.step(), 101);
        CHECKS.sameFace("after step in LOAD", x, y);
        x.start();
        y.start();
        x.step();
        y.step();
        due("step() in DONE", x.step(), 101);
        CHECKS.sameFace("after step in DONE", x, y);
    }

    private static void restartOrdinary() {
        ControllableTime x = new ControllableTime(4, 5);
        ControllableTime y = new ControllableTime(4, 5);
        due("restart() in LOAD", x.restart(), 101);
        CHECKS.sameFace("after restart in LOAD", x, y);
        ControllableTime[] both = {x, y};
        for (ControllableTime z : both) {
            z.addContingent(1, 2, 1, 3);
            z.addRequirement(2, 3, -1, 2);
            z.setPolicy(1, 1);
            z.setPolicy(2, 1);
        }
        x.start();
        due("restart() in RUN, round 0", x.restart(), 0);
        CHECKS.sameFace("after restart in RUN, round 0", x, y);
        x.start();
        steps(x, 0, 0, 2);
        due("restart() in RUN", x.restart(), 0);
        CHECKS.sameFace("after restart in RUN", x, y);
        x.start();
        due("now()", x.now(), 0);
        steps(x, 0, 0, 2, 0, 8, 4);
        due("state()", x.state(), 2);
        due("restart() in DONE", x.restart(), 0);
        CHECKS.sameFace("after restart in DONE", x, y);
        due("verdict()", x.verdict(), 1);
        due("restart() in LOAD again", x.restart(), 101);
    }
}
