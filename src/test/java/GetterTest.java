/** Promises 12 to 17: the getters, in every state, for ordinary and wrong arguments. */
public final class GetterTest {
    private static final int[] OUTSIDE = {Integer.MIN_VALUE, -1000, -1, 4, 5, 6, 36, Integer.MAX_VALUE};
    private static final Checks CHECKS = new Checks();

    public static void main(String[] args) {
        ControllableTime x = new ControllableTime(4, 5);
        x.addContingent(1, 2, 2, 3);
        x.addRequirement(1, 3, -2, 4);
        x.addRequirement(2, 0, -5, -2);
        x.setPolicy(2, 1);
        x.setPolicy(3, 1);
        inLoad(x);
        x.start();
        inRun(x);
        x.step();
        x.step();
        x.step();
        inDone(x);
        x.restart();
        inLoad(x);
        CHECKS.finish();
    }

    private static void due(String call, int got, int want) {
        CHECKS.due(call, got, want);
    }

    private static void inLoad(ControllableTime x) {
        due("state() in LOAD", x.state(), 0);
        due("now() in LOAD", x.now(), 0);
        for (int e = 0; e < 4; e++) {
            due("timeOf(" + e + ") in LOAD", x.timeOf(e), 100);
        }
        inAnyState(x);
    }

    private static void inRun(ControllableTime x) {
        int[] answers = {2, 0};
        for (int t = 0; t < 2; t++) {
            due("state() in RUN", x.state(), 1);
            due("now() in RUN", x.now(), t);
            due("timeOf(0) in RUN", x.timeOf(0), 0);
            due("timeOf(1) in RUN", x.timeOf(1), t == 0 ? 100 : 0);
            due("timeOf(2) in RUN", x.timeOf(2), 100);
            due("timeOf(3) in RUN", x.timeOf(3), 100);
            inAnyState(x);
            due("step()", x.step(), answers[t]);
        }
        due("now() in RUN", x.now(), 2);
        due("reveal(2)", x.reveal(2), 0);
        due("timeOf(2) when revealed", x.timeOf(2), 2);
        inAnyState(x);
    }

    private static void inDone(ControllableTime x) {
        due("state() in DONE", x.state(), 2);
        due("now() in DONE", x.now(), 4);
        int[] times = {0, 0, 2, 4};
        for (int e = 0; e < 4; e++) {
            due("timeOf(" + e + ") in DONE", x.timeOf(e), times[e]);
        }
        inAnyState(x);
    }

    private static void inAnyState(ControllableTime x) {
        int state = x.state();
        int now = x.now();
        limits(x);
        links(x);
        policies(x);
        for (int e : OUTSIDE) {
            due("timeOf(" + e + ")", x.timeOf(e), 102);
        }
        due("state() after getters", x.state(), state);
        due("now() after getters", x.now(), now);
    }

    private static void limits(ControllableTime x) {
        int[][] want = {
            {102, 5, 5, 5},
            {0, 102, 5, 4},
            {-2, 5, 102, 5},
            {0, 2, 5, 102},
        };
        for (int u = 0; u < 4; u++) {
            for (int v = 0; v < 4; v++) {
                due("limit(" + u + ", " + v + ")", x.limit(u, v), want[u][v]);
            }
            for (int v : OUTSIDE) {
                due("limit(" + u + ", " + v + ")", x.limit(u, v), 102);
                due("limit(" + v + ", " + u + ")", x.limit(v, u), 102);
            }
        }
    }

    private static void links(ControllableTime x) {
        int[] link = {1, 2, 3};
        int[] strange = {Integer.MIN_VALUE, -1, 3, Integer.MAX_VALUE};
        for (int field = 0; field < 3; field++) {
            due("linkOf(0, " + field + ")", x.linkOf(0, field), 102);
            due("linkOf(1, " + field + ")", x.linkOf(1, field), 100);
            due("linkOf(2, " + field + ")", x.linkOf(2, field), link[field]);
            due("linkOf(3, " + field + ")", x.linkOf(3, field), 100);
            for (int e : OUTSIDE) {
                due("linkOf(" + e + ", " + field + ")", x.linkOf(e, field), 102);
            }
        }
        for (int field : strange) {
            due("linkOf(0, " + field + ")", x.linkOf(0, field), 102);
            due("linkOf(4, " + field + ")", x.linkOf(4, field), 102);
            due("linkOf(2, " + field + ")", x.linkOf(2, field), 103);
            due("linkOf(3, " + field + "), not contingent", x.linkOf(3, field), 103);
        }
    }

    private static void policies(ControllableTime x) {
        due("policyOf(0)", x.policyOf(0), 102);
        due("policyOf(1)", x.policyOf(1), 0);
        due("policyOf(2), contingent", x.policyOf(2), 1);
        due("policyOf(3)", x.policyOf(3), 1);
        for (int e : OUTSIDE) {
            due("policyOf(" + e + ")", x.policyOf(e), 102);
        }
    }
}
