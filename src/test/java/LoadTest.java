/** Promises 1 to 6: the constructor and its beginning, and the editing of links and policies. */
public final class LoadTest {
    private static final int LEAST = Checks.LEAST;
    private static final int GREATEST = Checks.GREATEST;
    private static final Checks CHECKS = new Checks();

    public static void main(String[] args) {
        clamping();
        beginning();
        requirementOrdinary();
        requirementRefused();
        contingentOrdinary();
        contingentRefused();
        contingentCircles();
        requirementDropped();
        contingentDropped();
        policies();
        editingOutsideLoad();
        CHECKS.finish();
    }

    private static void due(String call, int got, int want) {
        CHECKS.due(call, got, want);
    }

    private static void clamping() {
        int[] events = {LEAST, -5, 0, 2, 3, 4, 5, 6, 7, 99, GREATEST};
        int[] counts = {3, 3, 3, 3, 3, 4, 5, 6, 6, 6, 6};
        for (int k = 0; k < events.length; k++) {
            ControllableTime x = new ControllableTime(events[k], 5);
            due("greatest event of " + events[k], x.timeOf(counts[k] - 1), 100);
            due("event above those of " + events[k], x.timeOf(counts[k]), 102);
        }
        int[] horizons = {LEAST, -1, 0, 2, 3, 4, 5, 6, 7, 8, 99, GREATEST};
        int[] rounds = {3, 3, 3, 3, 3, 4, 5, 6, 7, 7, 7, 7};
        for (int k = 0; k < horizons.length; k++) {
            ControllableTime x = new ControllableTime(4, horizons[k]);
            due("horizon of " + horizons[k], x.limit(0, 3), rounds[k]);
            due("bound at the horizon", x.addRequirement(1, 2, -rounds[k], rounds[k]), 0);
            due("bound above the horizon", x.addRequirement(1, 2, 0, rounds[k] + 1), 103);
        }
    }

    private static void beginning() {
        for (int n = 3; n <= 6; n++) {
            for (int h = 3; h <= 7; h++) {
                ControllableTime x = new ControllableTime(n, h);
                due("state()", x.state(), 0);
                due("now()", x.now(), 0);
                for (int u = 0; u < n; u++) {
                    due("timeOf(" + u + ")", x.timeOf(u), 100);
                    due("policyOf(" + u + ")", x.policyOf(u), u == 0 ? 102 : 0);
                    due("linkOf(" + u + ", 0)", x.linkOf(u, 0), u == 0 ? 102 : 100);
                    for (int v = 0; v < n; v++) {
                        due("limit(" + u + ", " + v + ")", x.limit(u, v), u == v ? 102 : v == 0 ? 0 : h);
                    }
                }
                due("verdict()", x.verdict(), 1);
            }
        }
    }

    private static void requirementOrdinary() {
        ControllableTime x = new ControllableTime(5, 6);
        due("addRequirement(1, 2, -2, 3)", x.addRequirement(1, 2, -2, 3), 0);
        due("limit(1, 2)", x.limit(1, 2), 3);
        due("limit(2, 1)", x.limit(2, 1), 2);
        due("looser changes nothing", x.addRequirement(1, 2, -5, 6), 0);
        due("limit(1, 2)", x.limit(1, 2), 3);
        due("limit(2, 1)", x.limit(2, 1), 2);
        due("turned round", x.addRequirement(2, 1, -1, 5), 0);
        due("limit(1, 2)", x.limit(1, 2), 1);
        due("limit(2, 1)", x.limit(2, 1), 2);
        due("contradiction is loaded", x.addRequirement(1, 2, 4, 5), 0);
        due("limit(1, 2)", x.limit(1, 2), 1);
        due("limit(2, 1)", x.limit(2, 1), -4);
        due("from the origin", x.addRequirement(0, 3, -6, 6), 0);
        due("limit(3, 0) is no looser than default", x.limit(3, 0), 0);
        due("to the origin", x.addRequirement(3, 0, -5, -5), 0);
        due("limit(3, 0)", x.limit(3, 0), -5);
        due("limit(0, 3)", x.limit(0, 3), 5);
        due("limits elsewhere stay", x.limit(1, 3), 6);
        due("limits elsewhere stay", x.limit(3, 2), 6);
        due("on a contingent event", x.addContingent(0, 4, 1, 2) + x.addRequirement(4, 1, 6, 6), 0);
        due("limit(4, 1)", x.limit(4, 1), 6);
        due("limit(1, 4)", x.limit(1, 4), -6);
        due("linkOf(4, 2)", x.linkOf(4, 2), 2);
        due("least bounds", x.addRequirement(3, 2, -6, -6), 0);
        due("limit(3, 2)", x.limit(3, 2), -6);
        due("limit(2, 3)", x.limit(2, 3), 6);
    }

    private static void requirementRefused() {
        ControllableTime x = new ControllableTime(4, 5);
        int[] outside = {LEAST, -1, 4, GREATEST};
        for (int e : outside) {
            due("addRequirement(" + e + ", 1, 9, 1)", x.addRequirement(e, 1, 9, 1), 102);
            due("addRequirement(1, " + e + ", 0, 1)", x.addRequirement(1, e, 0, 1), 102);
            due("addRequirement(" + e + ", " + e + ", 0, 1)", x.addRequirement(e, e, 0, 1), 102);
        }
        for (int e = 0; e < 4; e++) {
            due("addRequirement(" + e + ", " + e + ", 0, 1)", x.addRequirement(e, e, 0, 1), 102);
        }
        due("lo below -H", x.addRequirement(1, 2, -6, 1), 103);
        due("hi above H", x.addRequirement(1, 2, 1, 6), 103);
        due("lo above hi", x.addRequirement(1, 2, 2, 1), 103);
        due("least lo", x.addRequirement(1, 2, LEAST, 1), 103);
        due("greatest hi", x.addRequirement(1, 2, 1, GREATEST), 103);
        due("extremes", x.addRequirement(1, 2, LEAST, GREATEST), 103);
        due("extremes", x.addRequirement(1, 2, GREATEST, LEAST), 103);
        due("both below", x.addRequirement(1, 2, LEAST, LEAST), 103);
        due("both above", x.addRequirement(1, 2, GREATEST, GREATEST), 103);
        CHECKS.sameFace("after refused requirements", x, new ControllableTime(4, 5));
    }

    private static void contingentOrdinary() {
        ControllableTime x = new ControllableTime(5, 4);
        due("addContingent(0, 1, 1, 4)", x.addContingent(0, 1, 1, 4), 0);
        due("addContingent(1, 2, 4, 4)", x.addContingent(1, 2, 4, 4), 0);
        due("addContingent(4, 3, 1, 1)", x.addContingent(4, 3, 1, 1), 0);
        int[] fields = {0, 1, 4, 1, 4, 4, 4, 1, 1};
        for (int k = 0; k < 9; k++) {
            due("linkOf(" + (k / 3 + 1) + ", " + k % 3 + ")", x.linkOf(k / 3 + 1, k % 3), fields[k]);
        }
        due("linkOf(4, 0)", x.linkOf(4, 0), 100);
        for (int u = 0; u < 5; u++) {
            for (int v = 0; v < 5; v++) {
                due("limit(" + u + ", " + v + ")", x.limit(u, v), u == v ? 102 : v == 0 ? 0 : 4);
            }
        }
        due("state()", x.state(), 0);
        due("timeOf(1)", x.timeOf(1), 100);
    }

    private static void contingentRefused() {
        ControllableTime x = new ControllableTime(4, 5);
        int[] outside = {LEAST, -1, 4, GREATEST};
        for (int e : outside) {
            due("addContingent(" + e + ", 1, 9, 1)", x.addContingent(e, 1, 9, 1), 102);
            due("addContingent(1, " + e + ", 1, 1)", x.addContingent(1, e, 1, 1), 102);
        }
        due("end is the origin", x.addContingent(1, 0, 1, 1), 102);
        due("from an event to itself", x.addContingent(2, 2, 1, 1), 102);
        due("lo 0", x.addContingent(0, 1, 0, 2), 103);
        due("lo above hi", x.addContingent(0, 1, 3, 2), 103);
        due("hi above H", x.addContingent(0, 1, 3, 6), 103);
        due("least lo", x.addContingent(0, 1, LEAST, 3), 103);
        due("greatest hi", x.addContingent(0, 1, 1, GREATEST), 103);
        due("both above", x.addContingent(0, 1, 6, 6), 103);
        CHECKS.sameFace("after refused links", x, new ControllableTime(4, 5));
        due("addContingent(0, 1, 2, 3)", x.addContingent(0, 1, 2, 3), 0);
        due("bounds before a second link", x.addContingent(0, 1, 0, 3), 103);
        due("a second link", x.addContingent(2, 1, 1, 1), 104);
        due("the same link again", x.addContingent(0, 1, 2, 3), 104);
        due("linkOf(1, 0)", x.linkOf(1, 0), 0);
        due("linkOf(1, 1)", x.linkOf(1, 1), 2);
        due("linkOf(1, 2)", x.linkOf(1, 2), 3);
    }

    private static void contingentCircles() {
        ControllableTime x = new ControllableTime(6, 7);
        due("5 after 4", x.addContingent(4, 5, 1, 1), 0);
        due("4 after 5", x.addContingent(5, 4, 1, 1), 104);
        due("3 after 5", x.addContingent(5, 3, 1, 1), 0);
        due("2 after 3", x.addContingent(3, 2, 1, 1), 0);
        due("1 after 2", x.addContingent(2, 1, 1, 1), 0);
        due("4 after 1, four links back", x.addContingent(1, 4, 1, 1), 104);
        due("4 after 3", x.addContingent(3, 4, 1, 1), 104);
        due("linkOf(4, 0)", x.linkOf(4, 0), 100);
        due("drop 2", x.dropContingent(2), 0);
        due("4 after 1, as the way back ends at 2", x.addContingent(1, 4, 1, 1), 0);
        due("2 after 3, which leads back to 2", x.addContingent(3, 2, 1, 1), 104);
        due("2 after the origin", x.addContingent(0, 2, 1, 1), 0);
    }

    private static void requirementDropped() {
        ControllableTime x = new ControllableTime(4, 5);
        x.addRequirement(0, 1, 2, 3);
        x.addRequirement(1, 2, 1, 1);
        x.addContingent(1, 3, 1, 2);
        x.setPolicy(2, 1);
        due("dropRequirement(1, 0)", x.dropRequirement(1, 0), 0);
        due("limit(0, 1)", x.limit(0, 1), 5);
        due("limit(1, 0)", x.limit(1, 0), 0);
        due("limit(1, 2) stays", x.limit(1, 2), 1);
        due("limit(2, 1) stays", x.limit(2, 1), -1);
        due("dropRequirement(1, 2)", x.dropRequirement(1, 2), 0);
        due("limit(1, 2)", x.limit(1, 2), 5);
        due("limit(2, 1)", x.limit(2, 1), 5);
        due("dropped again", x.dropRequirement(1, 2), 0);
        due("never loaded, from the origin", x.dropRequirement(0, 3), 0);
        int[] outside = {LEAST, -1, 4, GREATEST};
        for (int e : outside) {
            due("dropRequirement(" + e + ", 1)", x.dropRequirement(e, 1), 102);
            due("dropRequirement(1, " + e + ")", x.dropRequirement(1, e), 102);
        }
        due("dropRequirement(2, 2)", x.dropRequirement(2, 2), 102);
        due("dropRequirement(0, 0)", x.dropRequirement(0, 0), 102);
        ControllableTime y = new ControllableTime(4, 5);
        y.addContingent(1, 3, 1, 2);
        y.setPolicy(2, 1);
        CHECKS.sameFace("after dropped requirements", x, y);
    }

    private static void contingentDropped() {
        ControllableTime x = new ControllableTime(4, 5);
        x.addContingent(0, 1, 1, 2);
        x.addContingent(1, 2, 2, 3);
        x.addRequirement(1, 2, 1, 4);
        x.setPolicy(1, 1);
        int[] outside = {LEAST, -1, 0, 4, GREATEST};
        for (int e : outside) {
            due("dropContingent(" + e + ")", x.dropContingent(e), 102);
        }
        due("dropContingent(3), executable", x.dropContingent(3), 104);
        due("dropContingent(1)", x.dropContingent(1), 0);
        due("dropContingent(1) again", x.dropContingent(1), 104);
        for (int field = 0; field < 3; field++) {
            due("linkOf(1, " + field + ")", x.linkOf(1, field), 100);
        }
        ControllableTime y = new ControllableTime(4, 5);
        y.addContingent(1, 2, 2, 3);
        y.addRequirement(1, 2, 1, 4);
        y.setPolicy(1, 1);
        CHECKS.sameFace("after a dropped link", x, y);
        due("event 1 is executable again", x.setPolicy(1, 0) + x.start() + x.step(), 2 + 8);
    }

    private static void policies() {
        ControllableTime x = new ControllableTime(4, 5);
        int[] outside = {LEAST, -1, 0, 4, GREATEST};
        for (int e : outside) {
            due("setPolicy(" + e + ", 1)", x.setPolicy(e, 1), 102);
            due("setPolicy(" + e + ", 7)", x.setPolicy(e, 7), 102);
        }
        int[] strange = {LEAST, -1, 2, GREATEST};
        for (int policy : strange) {
            due("setPolicy(1, " + policy + ")", x.setPolicy(1, policy), 103);
        }
        CHECKS.sameFace("after refused policies", x, new ControllableTime(4, 5));
        due("setPolicy(2, 1)", x.setPolicy(2, 1), 0);
        due("setPolicy(2, 1) again", x.setPolicy(2, 1), 0);
        due("policyOf(2)", x.policyOf(2), 1);
        due("policyOf(1)", x.policyOf(1), 0);
        due("kept while contingent", x.addContingent(0, 2, 1, 1), 0);
        due("policyOf(2)", x.policyOf(2), 1);
        due("set while contingent", x.setPolicy(2, 0) + x.setPolicy(2, 1), 0);
        due("kept when dropped", x.dropContingent(2), 0);
        due("policyOf(2)", x.policyOf(2), 1);
        due("in RUN", x.start() + x.setPolicy(1, 1), 0);
        due("policyOf(1)", x.policyOf(1), 1);
        due("step() heeds it at once", x.step(), 8);
        due("in RUN again", x.setPolicy(1, 0) + x.setPolicy(2, 0), 0);
        due("step() heeds it at once", x.step(), 6);
        due("in DONE", x.state() + x.setPolicy(3, 1), 2);
        due("policyOf(3)", x.policyOf(3), 1);
        due("in DONE, refused", x.setPolicy(0, 1), 102);
        due("state()", x.state(), 2);
        due("timeOf(2)", x.timeOf(2), 1);
    }

    private static void editingOutsideLoad() {
        ControllableTime x = new ControllableTime(3, 3);
        ControllableTime y = new ControllableTime(3, 3);
        x.addContingent(1, 2, 1, 1);
        y.addContingent(1, 2, 1, 1);
        x.start();
        y.start();
        refuseEdits("RUN", x);
        CHECKS.sameFace("after edits in RUN", x, y);
        for (int k = 0; k < 2; k++) {
            x.step();
            y.step();
        }
        due("state()", x.state(), 2);
        refuseEdits("DONE", x);
        CHECKS.sameFace("after edits in DONE", x, y);
        due("after restart", x.restart() + x.addRequirement(0, 1, 1, 1) + x.dropContingent(2), 0);
    }

    private static void refuseEdits(String state, ControllableTime x) {
        due("addRequirement in " + state, x.addRequirement(0, 1, 1, 2), 101);
        due("addRequirement in " + state + ", bad event", x.addRequirement(9, 1, 1, 2), 101);
        due("addRequirement in " + state + ", bad bounds", x.addRequirement(0, 1, 2, 1), 101);
        due("addContingent in " + state, x.addContingent(0, 1, 1, 2), 101);
        due("addContingent in " + state + ", bad event", x.addContingent(0, 0, 1, 2), 101);
        due("addContingent in " + state + ", conflict", x.addContingent(0, 2, 1, 2), 101);
        due("dropRequirement in " + state, x.dropRequirement(0, 1), 101);
        due("dropRequirement in " + state + ", bad event", x.dropRequirement(0, 0), 101);
        due("dropContingent in " + state, x.dropContingent(2), 101);
        due("dropContingent in " + state + ", bad event", x.dropContingent(0), 101);
        due("dropContingent in " + state + ", executable", x.dropContingent(1), 101);
    }
}
