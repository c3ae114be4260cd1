import java.util.function.ToIntFunction;

/**
 * 'States and answers': every call, with arguments from the least int to the greatest one in all combinations, in
 * every situation. The answer is the one of the first condition that fails; all refused calls go to one object,
 * which must then still be like one that got none of them, in what its getters and its later calls show.
 */
public final class RefusalTest {
    private static final int[] EVENTS = {Checks.LEAST, -5, -1, 0, 1, 2, 3, 4, 5, 6, 36, Checks.GREATEST};
    private static final int[] BOUNDS = {Checks.LEAST, -6, -5, -1, 0, 1, 2, 5, 6, Checks.GREATEST};
    private static final Checks CHECKS = new Checks();

    private final Situation from;
    private final ControllableTime refusing;

    private RefusalTest(Situation from) {
        this.from = from;
        refusing = from.make();
    }

    public static void main(String[] args) {
        CHECKS.sentence("States and answers", "LOAD: links can be edited; no event has a time (event 0 included); now"
                + " is 0", RefusalTest::load);
        CHECKS.sentence("States and answers", "RUN: the game is being played, in round now, before the end of its"
                + " OUTCOMES part", RefusalTest::run);
        CHECKS.sentence("States and answers", "DONE: the game is over", RefusalTest::done);
        for (Situation from : Situation.values()) {
            CHECKS.sentence("The situations", "are what they are said to be, " + from,
                    () -> new RefusalTest(from).situation());
            for (int way = 0; way < Twins.WAYS; way++) {
                int later = way;
                CHECKS.sentence("States and answers", "the first that fails gives the answer; a refused call changes"
                        + " nothing; every int is allowed as an argument, " + from,
                        () -> new RefusalTest(from).allCalls(later));
            }
        }
        CHECKS.finish();
    }

    private static void load() {
        for (Situation from : Situation.values()) {
            if (from.state == 0) {
                ControllableTime x = from.make();
                CHECKS.stateAndNow("" + from, x, 0, 0);
                CHECKS.times(x, 100, 100, 100, 100, 100);
                CHECKS.due("edits " + from, x.addRequirement(0, 4, 1, 4) + x.addContingent(0, 4, 1, 3)
                        + x.dropContingent(4) + x.dropRequirement(0, 4), 0);
            }
        }
    }

    /** Each step ends in the next round's OUTCOMES part, so an outcome can be revealed before the next choices. */
    private static void run() {
        ControllableTime x = new ControllableTime(4, 5);
        x.addContingent(0, 1, 1, 5);
        x.addContingent(0, 3, 1, 5);
        x.addRequirement(1, 2, 0, 0);
        CHECKS.due("start()", x.start(), 0);
        CHECKS.stateAndNow("begun", x, 1, 0);
        CHECKS.steps(x, 0);
        CHECKS.stateAndNow("in round 1", x, 1, 1);
        CHECKS.due("reveal(3) in round 1", x.reveal(3), 0);
        CHECKS.due("reveal(1) in round 1", x.reveal(1), 0);
        CHECKS.due("event 2 has not been chosen yet", x.timeOf(2), 100);
        CHECKS.steps(x, 4);
        CHECKS.times(x, 0, 1, 1, 1);
    }

    private static void done() {
        for (Situation from : Situation.values()) {
            if (from.state == 2) {
                ControllableTime x = from.make();
                CHECKS.stateAndNow("" + from, x, 2, from.now);
                CHECKS.due("step() " + from, x.step(), 101);
                CHECKS.due("reveal(2) " + from, x.reveal(2), 101);
                CHECKS.due("start() " + from, x.start(), 101);
                CHECKS.due("addRequirement " + from, x.addRequirement(0, 1, 0, 5), 101);
                CHECKS.stateAndNow("" + from, x, 2, from.now);
            }
        }
    }

    /** The other tests rely on this. */
    private void situation() {
        CHECKS.stateAndNow("made", refusing, from.state, from.now);
        for (int e = 0; e < Situation.EVENTS; e++) {
            CHECKS.due("timeOf(" + e + ")", refusing.timeOf(e), from.time(e));
        }
        CHECKS.due("verdict()", refusing.verdict(), from.isAccepted() ? 1 : 0);
    }

    private void allCalls(int way) {
        addRequirement();
        addContingent();
        dropRequirement();
        dropContingent();
        setPolicy();
        reveal();
        startStepRestart();
        Twins twins = new Twins(CHECKS, "all refused calls", refusing, from.make());
        twins.later(way);
    }

    /** A call that is taken goes to an object of its own. */
    private void check(String call, int want, ToIntFunction<ControllableTime> made) {
        CHECKS.due(call, made.applyAsInt(want == 0 ? from.make() : refusing), want);
    }

    private void unchanged(String call) {
        CHECKS.sameFace("after refused calls of " + call, refusing, from.make());
    }

    private static boolean isPair(int u, int v) {
        return u >= 0 && u <= 4 && v >= 0 && v <= 4 && u != v;
    }

    private static boolean isLater(int e) {
        return e >= 1 && e <= 4;
    }

    private void addRequirement() {
        for (int u : EVENTS) {
            for (int v : EVENTS) {
                for (int lo : BOUNDS) {
                    for (int hi : BOUNDS) {
                        boolean fits = -5 <= lo && lo <= hi && hi <= 5;
                        check("addRequirement(" + u + ", " + v + ", " + lo + ", " + hi + ")",
                                from.state != 0 ? 101 : !isPair(u, v) ? 102 : !fits ? 103 : 0,
                                x -> x.addRequirement(u, v, lo, hi));
                    }
                }
                unchanged("addRequirement(" + u + ", " + v + ", ..)");
            }
        }
    }

    private void addContingent() {
        for (int a : EVENTS) {
            for (int c : EVENTS) {
                boolean conflict = from.isContingent(c) || c == 1 && from.isContingent(a);
                for (int lo : BOUNDS) {
                    for (int hi : BOUNDS) {
                        boolean fits = 1 <= lo && lo <= hi && hi <= 5;
                        boolean wrong = !isPair(a, c) || c == 0;
                        check("addContingent(" + a + ", " + c + ", " + lo + ", " + hi + ")",
                                from.state != 0 ? 101 : wrong ? 102 : !fits ? 103 : conflict ? 104 : 0,
                                x -> x.addContingent(a, c, lo, hi));
                    }
                }
                unchanged("addContingent(" + a + ", " + c + ", ..)");
            }
        }
    }

    private void dropRequirement() {
        for (int u : EVENTS) {
            for (int v : EVENTS) {
                check("dropRequirement(" + u + ", " + v + ")", from.state != 0 ? 101 : !isPair(u, v) ? 102 : 0,
                        x -> x.dropRequirement(u, v));
            }
        }
        unchanged("dropRequirement");
    }

    private void dropContingent() {
        for (int c : EVENTS) {
            check("dropContingent(" + c + ")",
                    from.state != 0 ? 101 : !isLater(c) ? 102 : !from.isContingent(c) ? 104 : 0,
                    x -> x.dropContingent(c));
        }
        unchanged("dropContingent");
    }

    private void setPolicy() {
        for (int e : EVENTS) {
            for (int policy : BOUNDS) {
                check("setPolicy(" + e + ", " + policy + ")",
                        !isLater(e) ? 102 : policy != 0 && policy != 1 ? 103 : 0,
                        x -> x.setPolicy(e, policy));
            }
        }
        unchanged("setPolicy");
    }

    /** Of all situations only the last round has an outcome that can be revealed: event 3, one round after event 2. */
    private void reveal() {
        for (int c : EVENTS) {
            boolean taken = from == Situation.LAST_ROUND && c == 3;
            check("reveal(" + c + ")", from.state != 1 ? 101 : !from.isContingent(c) ? 102 : taken ? 0 : 104,
                    x -> x.reveal(c));
        }
        unchanged("reveal");
    }

    private void startStepRestart() {
        check("start()", from.state != 0 ? 101 : !from.isAccepted() ? 105 : 0, x -> x.start());
        if (from.state != 1) {
            check("step()", 101, x -> x.step());
        }
        check("restart()", from.state == 0 ? 101 : 0, x -> x.restart());
        unchanged("start, step and restart");
    }
}
