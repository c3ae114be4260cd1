/** Promises 2 and 4, sentence by sentence: addRequirement and dropRequirement. */
public final class RequirementEdgeTest {
    private static final Checks CHECKS = new Checks();

    public static void main(String[] args) {
        CHECKS.sentence("2", "the state is LOAD, else BAD_STATE", RequirementEdgeTest::addInOtherStates);
        CHECKS.sentence("2", "u and v are both in 0..N-1, else BAD_EVENT", RequirementEdgeTest::addOutsideEvents);
        CHECKS.sentence("2", "and u != v, else BAD_EVENT", RequirementEdgeTest::addToItself);
        CHECKS.sentence("2", "-H <= lo, else BAD_BOUNDS", RequirementEdgeTest::addLeastLo);
        CHECKS.sentence("2", "lo <= hi, else BAD_BOUNDS", RequirementEdgeTest::addLoAndHi);
        CHECKS.sentence("2", "hi <= H, else BAD_BOUNDS", RequirementEdgeTest::addGreatestHi);
        CHECKS.sentence("2", "the order of the conditions", RequirementEdgeTest::addOrder);
        CHECKS.sentence("2", "on top of what is already required", RequirementEdgeTest::addOnTop);
        CHECKS.sentence("2", "limit(u,v) becomes the lesser of its old value and hi", RequirementEdgeTest::addHi);
        CHECKS.sentence("2", "limit(v,u) becomes the lesser of its old value and -lo", RequirementEdgeTest::addLo);
        CHECKS.sentence("2", "This holds for the origin", RequirementEdgeTest::addAtTheOrigin);
        CHECKS.sentence("2", "executable events and contingent events alike", RequirementEdgeTest::addAtContingents);
        CHECKS.sentence("2", "also if the requirements then contradict each other",
                RequirementEdgeTest::addContradiction);
        CHECKS.sentence("2", "No other limit changes", RequirementEdgeTest::addLeavesOtherLimits);
        CHECKS.sentence("2", "(nothing is deduced here)", RequirementEdgeTest::addDeducesNothing);
        CHECKS.sentence("2", "contingent links, policies, state, now and times do not change",
                RequirementEdgeTest::addLeavesTheRest);
        CHECKS.sentence("2", "a refused call changes nothing", RequirementEdgeTest::addRefused);

        CHECKS.sentence("4", "the state is LOAD, else BAD_STATE", RequirementEdgeTest::dropInOtherStates);
        CHECKS.sentence("4", "u and v are both in 0..N-1, else BAD_EVENT", RequirementEdgeTest::dropOutsideEvents);
        CHECKS.sentence("4", "and u != v, else BAD_EVENT", RequirementEdgeTest::dropAtItself);
        CHECKS.sentence("4", "limit(u,v) and limit(v,u) both get their default values", RequirementEdgeTest::dropBoth);
        CHECKS.sentence("4", "also if they had these values already", RequirementEdgeTest::dropNothing);
        CHECKS.sentence("4", "No other limit changes", RequirementEdgeTest::dropLeavesOtherLimits);
        CHECKS.sentence("4", "contingent links, policies, state, now and times do not change",
                RequirementEdgeTest::dropLeavesTheRest);
        CHECKS.sentence("4", "a refused call changes nothing", RequirementEdgeTest::dropRefused);
        CHECKS.finish();
    }

    private static void due(String call, int got, int want) {
        CHECKS.due(call, got, want);
    }

    private static void add(ControllableTime x, int u, int v, int lo, int hi, int answer) {
        due("addRequirement(" + u + ", " + v + ", " + lo + ", " + hi + ")", x.addRequirement(u, v, lo, hi), answer);
    }

    private static void drop(ControllableTime x, int u, int v, int answer) {
        due("dropRequirement(" + u + ", " + v + ")", x.dropRequirement(u, v), answer);
    }

    private static void limits(ControllableTime x, int u, int v, int there, int back) {
        due("limit(" + u + ", " + v + ")", x.limit(u, v), there);
        due("limit(" + v + ", " + u + ")", x.limit(v, u), back);
    }

    /** All limits of an object of 4 events, with 0 where there is none. */
    private static void allLimits(ControllableTime x, int[][] want) {
        for (int u = 0; u < 4; u++) {
            for (int v = 0; v < 4; v++) {
                due("limit(" + u + ", " + v + ")", x.limit(u, v), u == v ? 102 : want[u][v]);
            }
        }
    }

    private static void addInOtherStates() {
        for (Situation from : Situation.values()) {
            ControllableTime x = from.make();
            due("addRequirement(0, 1, 0, 5) " + from, x.addRequirement(0, 1, 0, 5), from.state == 0 ? 0 : 101);
            due("addRequirement(3, 4, -5, 5) " + from, x.addRequirement(3, 4, -5, 5), from.state == 0 ? 0 : 101);
        }
    }

    private static void addOutsideEvents() {
        for (int n = 3; n <= 6; n++) {
            ControllableTime x = new ControllableTime(n, 5);
            int[] outside = {Checks.LEAST, Checks.LEAST + 1, -n, -1, n, n + 1, 36, Checks.GREATEST};
            for (int e : outside) {
                for (int inside = 0; inside < n; inside++) {
                    add(x, e, inside, 0, 1, 102);
                    add(x, inside, e, 0, 1, 102);
                }
                for (int other : outside) {
                    add(x, e, other, 0, 1, 102);
                }
            }
            add(x, 0, n - 1, 0, 1, 0);
            add(x, n - 1, 0, -1, 0, 0);
            add(x, n - 1, n - 2, 0, 1, 0);
        }
    }

    private static void addToItself() {
        for (int n = 3; n <= 6; n++) {
            ControllableTime x = new ControllableTime(n, 5);
            for (int e = 0; e < n; e++) {
                add(x, e, e, 0, 0, 102);
                add(x, e, e, -5, 5, 102);
            }
            CHECKS.sameFace("after requirements on one event", x, new ControllableTime(n, 5));
        }
    }

    private static void addLeastLo() {
        for (int h = 3; h <= 7; h++) {
            ControllableTime x = new ControllableTime(3, h);
            int[] below = {-h - 1, -h - 2, -100, Checks.LEAST + 1, Checks.LEAST};
            for (int lo : below) {
                add(x, 1, 2, lo, 0, 103);
                add(x, 0, 1, lo, h, 103);
                add(x, 2, 1, lo, -h, 103);
                add(x, 2, 1, lo, lo, 103);
            }
            limits(x, 1, 2, h, h);
            limits(x, 0, 1, h, 0);
            add(x, 1, 2, -h, h, 0);
            add(x, 1, 2, -h, 0, 0);
            limits(x, 1, 2, 0, h);
        }
    }

    private static void addLoAndHi() {
        for (int h = 3; h <= 7; h++) {
            for (int lo = -h; lo <= h; lo++) {
                ControllableTime x = new ControllableTime(3, h);
                for (int hi = -h; hi < lo; hi++) {
                    add(x, 1, 2, lo, hi, 103);
                }
                limits(x, 1, 2, h, h);
                add(x, 1, 2, lo, lo, 0);
                limits(x, 1, 2, lo, -lo);
            }
            ControllableTime y = new ControllableTime(3, h);
            add(y, 1, 2, Checks.GREATEST, Checks.LEAST, 103);
            add(y, 1, 2, h, Checks.LEAST, 103);
            add(y, 1, 2, Checks.GREATEST, -h, 103);
            limits(y, 1, 2, h, h);
        }
    }

    private static void addGreatestHi() {
        for (int h = 3; h <= 7; h++) {
            ControllableTime x = new ControllableTime(3, h);
            int[] above = {h + 1, h + 2, 100, Checks.GREATEST - 1, Checks.GREATEST};
            for (int hi : above) {
                add(x, 1, 2, 0, hi, 103);
                add(x, 0, 1, -h, hi, 103);
                add(x, 2, 1, h, hi, 103);
                add(x, 2, 1, hi, hi, 103);
                add(x, 2, 1, Checks.LEAST, hi, 103);
            }
            limits(x, 1, 2, h, h);
            add(x, 1, 2, h, h, 0);
            limits(x, 1, 2, h, -h);
        }
    }

    private static void addOrder() {
        ControllableTime x = new ControllableTime(4, 5);
        add(x, 4, 1, 2, 1, 102);
        add(x, 1, -1, -6, 6, 102);
        add(x, 2, 2, 2, 1, 102);
        add(x, 0, 0, Checks.LEAST, Checks.GREATEST, 102);
        due("start()", x.start(), 0);
        add(x, 4, 1, 0, 1, 101);
        add(x, 2, 2, 0, 1, 101);
        add(x, 1, 2, 2, 1, 101);
        add(x, Checks.LEAST, Checks.GREATEST, Checks.GREATEST, Checks.LEAST, 101);
        x.step();
        due("state()", x.state(), 2);
        add(x, 4, 1, 0, 1, 101);
        add(x, 2, 2, 0, 1, 101);
        add(x, 1, 2, 2, 1, 101);
        add(x, Checks.LEAST, Checks.GREATEST, Checks.GREATEST, Checks.LEAST, 101);
    }

    private static void addOnTop() {
        ControllableTime x = new ControllableTime(3, 7);
        add(x, 1, 2, -5, 5, 0);
        limits(x, 1, 2, 5, 5);
        add(x, 2, 1, -3, 6, 0);
        limits(x, 1, 2, 3, 5);
        add(x, 2, 1, -6, 2, 0);
        limits(x, 1, 2, 3, 2);
        add(x, 1, 2, -7, 7, 0);
        limits(x, 1, 2, 3, 2);
    }

    private static void addHi() {
        ControllableTime x = new ControllableTime(3, 5);
        add(x, 1, 2, -5, 5, 0);
        limits(x, 1, 2, 5, 5);
        add(x, 1, 2, -5, 4, 0);
        limits(x, 1, 2, 4, 5);
        add(x, 1, 2, -5, 5, 0);
        limits(x, 1, 2, 4, 5);
        add(x, 1, 2, -5, 4, 0);
        limits(x, 1, 2, 4, 5);
        for (int hi = 3; hi >= -5; hi--) {
            add(x, 1, 2, -5, hi, 0);
            limits(x, 1, 2, hi, 5);
        }
        add(x, 1, 2, -5, 0, 0);
        limits(x, 1, 2, -5, 5);
    }

    private static void addLo() {
        ControllableTime x = new ControllableTime(3, 5);
        add(x, 1, 2, -5, 5, 0);
        limits(x, 1, 2, 5, 5);
        add(x, 1, 2, -4, 5, 0);
        limits(x, 1, 2, 5, 4);
        add(x, 1, 2, -5, 5, 0);
        limits(x, 1, 2, 5, 4);
        add(x, 1, 2, -4, 5, 0);
        limits(x, 1, 2, 5, 4);
        for (int lo = -3; lo <= 5; lo++) {
            add(x, 1, 2, lo, 5, 0);
            limits(x, 1, 2, 5, -lo);
        }
        add(x, 1, 2, 0, 5, 0);
        limits(x, 1, 2, 5, -5);
    }

    /** The default limit back to the origin is 0 already, so only what is below 0 takes it in. */
    private static void addAtTheOrigin() {
        ControllableTime x = new ControllableTime(3, 5);
        add(x, 0, 1, -5, 5, 0);
        limits(x, 0, 1, 5, 0);
        add(x, 0, 1, -1, 4, 0);
        limits(x, 0, 1, 4, 0);
        add(x, 0, 1, 1, 4, 0);
        limits(x, 0, 1, 4, -1);
        add(x, 2, 0, -5, 5, 0);
        limits(x, 2, 0, 0, 5);
        add(x, 2, 0, -4, -2, 0);
        limits(x, 2, 0, -2, 4);
        add(x, 2, 0, 1, 1, 0);
        limits(x, 2, 0, -2, -1);
        due("verdict() with event 2 before the origin", x.verdict(), 0);
        drop(x, 0, 2, 0);
        due("start()", x.start(), 0);
        CHECKS.steps(x, 4, 2);
    }

    private static void addAtContingents() {
        ControllableTime x = new ControllableTime(5, 7);
        x.addContingent(0, 1, 1, 2);
        x.addContingent(3, 2, 2, 3);
        int[][] pairs = {{0, 1}, {1, 0}, {1, 2}, {2, 1}, {3, 2}, {2, 3}, {1, 3}, {3, 1}, {3, 4}, {4, 3}, {4, 1}};
        for (int[] p : pairs) {
            add(x, p[0], p[1], p[1] == 0 ? -3 : -2, p[1] == 0 ? -1 : 3, 0);
            limits(x, p[0], p[1], p[1] == 0 ? -1 : 3, p[0] == 0 ? 0 : p[1] == 0 ? 3 : 2);
            drop(x, p[0], p[1], 0);
        }
        add(x, 0, 1, 1, 1, 0);
        due("verdict() as the outcome may come later than is required", x.verdict(), 0);
        drop(x, 0, 1, 0);
        add(x, 0, 1, 1, 2, 0);
        due("verdict() as no outcome is later", x.verdict(), 1);
        due("linkOf(1, 2)", x.linkOf(1, 2), 2);
    }

    private static void addContradiction() {
        ControllableTime x = new ControllableTime(3, 5);
        add(x, 1, 2, 1, 2, 0);
        due("verdict()", x.verdict(), 1);
        add(x, 1, 2, 3, 4, 0);
        limits(x, 1, 2, 2, -3);
        due("verdict() of a contradiction", x.verdict(), 0);
        due("start() of a contradiction", x.start(), 105);
        add(x, 1, 2, -2, -1, 0);
        limits(x, 1, 2, -1, -3);
        add(x, 0, 1, -4, -4, 0);
        limits(x, 0, 1, -4, 0);
        add(x, 2, 1, 5, 5, 0);
        limits(x, 1, 2, -5, -3);
        due("verdict() of many contradictions", x.verdict(), 0);
        drop(x, 2, 1, 0);
        due("verdict() with one contradiction left", x.verdict(), 0);
        drop(x, 0, 1, 0);
        due("verdict() with none left", x.verdict(), 1);
        ControllableTime y = new ControllableTime(5, 5);
        add(y, 1, 2, 1, 1, 0);
        add(y, 2, 3, 1, 1, 0);
        add(y, 3, 1, -1, 1, 0);
        limits(y, 3, 1, 1, 1);
        due("verdict() of three that contradict each other", y.verdict(), 0);
    }

    private static void addLeavesOtherLimits() {
        for (int u = 0; u < 6; u++) {
            for (int v = 0; v < 6; v++) {
                ControllableTime x = new ControllableTime(6, 7);
                x.addRequirement(u, v, -1, -1);
                for (int from = 0; from < 6; from++) {
                    for (int to = 0; to < 6; to++) {
                        boolean taken = u != v && (from == u && to == v || from == v && to == u);
                        int old = from == to ? 102 : to == 0 ? 0 : 7;
                        int mine = from == u ? -1 : to == 0 ? 0 : 1;
                        due("after addRequirement(" + u + ", " + v + ", -1, -1): limit(" + from + ", " + to + ")",
                                x.limit(from, to), taken ? mine : old);
                    }
                }
            }
        }
    }

    private static void addDeducesNothing() {
        ControllableTime x = new ControllableTime(4, 5);
        int[][] want = {{0, 5, 1, 5}, {0, 0, 5, 2}, {0, 1, 0, 5}, {0, -2, 5, 0}};
        add(x, 0, 2, 0, 1, 0);
        add(x, 2, 1, -5, 1, 0);
        add(x, 1, 3, 2, 2, 0);
        allLimits(x, want);
        due("verdict()", x.verdict(), 1);
        allLimits(x, want);
        due("start()", x.start(), 0);
        allLimits(x, want);
        CHECKS.steps(x, 2 + 4, 0, 8);
        allLimits(x, want);
        due("restart()", x.restart(), 0);
        allLimits(x, want);
    }

    private static void addLeavesTheRest() {
        ControllableTime x = Situation.LOADED.make();
        int[][] pairs = {{0, 1}, {1, 2}, {2, 3}, {3, 2}, {4, 3}, {2, 0}};
        for (int[] p : pairs) {
            add(x, p[0], p[1], -1, 0, 0);
            CHECKS.stateAndNow("after it", x, 0, 0);
            CHECKS.times(x, 100, 100, 100, 100, 100);
            int[] links = {100, 1, 2, 100};
            int[] policies = {0, 0, 1, 1};
            for (int e = 1; e < 5; e++) {
                due("linkOf(" + e + ", 0)", x.linkOf(e, 0), links[e - 1]);
                due("policyOf(" + e + ")", x.policyOf(e), policies[e - 1]);
            }
            due("linkOf(2, 1)", x.linkOf(2, 1), 2);
            due("linkOf(2, 2)", x.linkOf(2, 2), 3);
            due("linkOf(3, 1)", x.linkOf(3, 1), 1);
            due("linkOf(3, 2)", x.linkOf(3, 2), 1);
        }
    }

    private static void addRefused() {
        for (Situation from : Situation.values()) {
            boolean load = from.state == 0;
            CHECKS.changesNothing("addRequirement(1, 5, 0, 1)", from, load ? 102 : 101,
                    x -> x.addRequirement(1, 5, 0, 1));
            CHECKS.changesNothing("addRequirement(4, 4, 0, 1)", from, load ? 102 : 101,
                    x -> x.addRequirement(4, 4, 0, 1));
            CHECKS.changesNothing("addRequirement(0, 4, 1, 6)", from, load ? 103 : 101,
                    x -> x.addRequirement(0, 4, 1, 6));
            CHECKS.changesNothing("addRequirement(4, 1, -6, 1)", from, load ? 103 : 101,
                    x -> x.addRequirement(4, 1, -6, 1));
            CHECKS.changesNothing("addRequirement(1, 4, 1, 0)", from, load ? 103 : 101,
                    x -> x.addRequirement(1, 4, 1, 0));
            if (!load) {
                CHECKS.changesNothing("addRequirement(0, 1, 0, 0)", from, 101, x -> x.addRequirement(0, 1, 0, 0));
            }
        }
    }

    private static void dropInOtherStates() {
        for (Situation from : Situation.values()) {
            ControllableTime x = from.make();
            due("dropRequirement(2, 4) " + from, x.dropRequirement(2, 4), from.state == 0 ? 0 : 101);
            due("dropRequirement(0, 1) " + from, x.dropRequirement(0, 1), from.state == 0 ? 0 : 101);
            due("dropRequirement(5, 1) " + from, x.dropRequirement(5, 1), from.state == 0 ? 102 : 101);
            due("dropRequirement(1, 1) " + from, x.dropRequirement(1, 1), from.state == 0 ? 102 : 101);
        }
    }

    private static void dropOutsideEvents() {
        for (int n = 3; n <= 6; n++) {
            ControllableTime x = new ControllableTime(n, 5);
            int[] outside = {Checks.LEAST, Checks.LEAST + 1, -n, -1, n, n + 1, 36, Checks.GREATEST};
            for (int e : outside) {
                for (int inside = 0; inside < n; inside++) {
                    drop(x, e, inside, 102);
                    drop(x, inside, e, 102);
                }
                for (int other : outside) {
                    drop(x, e, other, 102);
                }
            }
            drop(x, 0, n - 1, 0);
            drop(x, n - 1, 0, 0);
        }
    }

    private static void dropAtItself() {
        for (int n = 3; n <= 6; n++) {
            ControllableTime x = new ControllableTime(n, 5);
            for (int e = 0; e < n; e++) {
                drop(x, e, e, 102);
            }
        }
    }

    private static void dropBoth() {
        for (int u = 0; u < 5; u++) {
            for (int v = 0; v < 5; v++) {
                if (u != v) {
                    ControllableTime x = new ControllableTime(5, 6);
                    x.addRequirement(u, v, -2, -1);
                    x.addRequirement(u, v, 1, 2);
                    drop(x, u, v, 0);
                    limits(x, u, v, v == 0 ? 0 : 6, u == 0 ? 0 : 6);
                    due("verdict()", x.verdict(), 1);
                }
            }
        }
    }

    private static void dropNothing() {
        ControllableTime x = new ControllableTime(4, 5);
        for (int u = 0; u < 4; u++) {
            for (int v = 0; v < 4; v++) {
                drop(x, u, v, u == v ? 102 : 0);
            }
        }
        CHECKS.sameFace("after nothing was dropped", x, new ControllableTime(4, 5));
        add(x, 1, 2, 1, 1, 0);
        drop(x, 1, 2, 0);
        drop(x, 1, 2, 0);
        drop(x, 2, 1, 0);
        CHECKS.sameFace("after it was dropped three times", x, new ControllableTime(4, 5));
    }

    private static void dropLeavesOtherLimits() {
        for (int u = 0; u < 5; u++) {
            for (int v = 0; v < 5; v++) {
                if (u != v) {
                    dropOneOfAll(u, v);
                }
            }
        }
    }

    private static void dropOneOfAll(int u, int v) {
        ControllableTime x = new ControllableTime(5, 6);
        for (int from = 0; from < 5; from++) {
            for (int to = from + 1; to < 5; to++) {
                x.addRequirement(from, to, 1, 4);
            }
        }
        drop(x, u, v, 0);
        for (int from = 0; from < 5; from++) {
            for (int to = 0; to < 5; to++) {
                boolean dropped = from == u && to == v || from == v && to == u;
                int kept = from == to ? 102 : from < to ? 4 : -1;
                due("after dropRequirement(" + u + ", " + v + "): limit(" + from + ", " + to + ")",
                        x.limit(from, to), dropped ? to == 0 ? 0 : 6 : kept);
            }
        }
    }

    private static void dropLeavesTheRest() {
        ControllableTime x = Situation.LOADED.make();
        for (int u = 0; u < 5; u++) {
            for (int v = 0; v < 5; v++) {
                x.dropRequirement(u, v);
            }
        }
        ControllableTime y = new ControllableTime(5, 5);
        y.addContingent(1, 2, 2, 3);
        y.addContingent(2, 3, 1, 1);
        y.setPolicy(3, 1);
        y.setPolicy(4, 1);
        CHECKS.sameFace("after all were dropped", x, y);
        CHECKS.stateAndNow("after all were dropped", x, 0, 0);
    }

    private static void dropRefused() {
        for (Situation from : Situation.values()) {
            boolean load = from.state == 0;
            CHECKS.changesNothing("dropRequirement(2, 5)", from, load ? 102 : 101, x -> x.dropRequirement(2, 5));
            CHECKS.changesNothing("dropRequirement(-1, 4)", from, load ? 102 : 101, x -> x.dropRequirement(-1, 4));
            CHECKS.changesNothing("dropRequirement(4, 4)", from, load ? 102 : 101, x -> x.dropRequirement(4, 4));
            if (!load) {
                CHECKS.changesNothing("dropRequirement(2, 4)", from, 101, x -> x.dropRequirement(2, 4));
                CHECKS.changesNothing("dropRequirement(4, 2)", from, 101, x -> x.dropRequirement(4, 2));
            }
        }
    }
}
