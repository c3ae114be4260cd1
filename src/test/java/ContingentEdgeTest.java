/** Promises 3 and 5, sentence by sentence: addContingent and dropContingent. */
public final class ContingentEdgeTest {
    private static final Checks CHECKS = new Checks();

    public static void main(String[] args) {
        CHECKS.sentence("3", "the state is LOAD, else BAD_STATE", ContingentEdgeTest::addInOtherStates);
        CHECKS.sentence("3", "a and c are both in 0..N-1, else BAD_EVENT", ContingentEdgeTest::addOutsideEvents);
        CHECKS.sentence("3", "c != 0, else BAD_EVENT", ContingentEdgeTest::addToTheOrigin);
        CHECKS.sentence("3", "a != c, else BAD_EVENT", ContingentEdgeTest::addToItself);
        CHECKS.sentence("3", "1 <= lo, else BAD_BOUNDS", ContingentEdgeTest::addLeastLo);
        CHECKS.sentence("3", "lo <= hi, else BAD_BOUNDS", ContingentEdgeTest::addLoAndHi);
        CHECKS.sentence("3", "hi <= H, else BAD_BOUNDS", ContingentEdgeTest::addGreatestHi);
        CHECKS.sentence("3", "c is not contingent yet, else CONFLICT", ContingentEdgeTest::addTwice);
        CHECKS.sentence("3", "never meets c, else CONFLICT", ContingentEdgeTest::addCircles);
        CHECKS.sentence("3", "as long as the event reached is contingent", ContingentEdgeTest::addWalksThatEnd);
        CHECKS.sentence("3", "the order of the conditions", ContingentEdgeTest::addOrder);
        CHECKS.sentence("3", "Then the link is stored", ContingentEdgeTest::addStores);
        CHECKS.sentence("3", "c becomes contingent", ContingentEdgeTest::addMakesContingent);
        CHECKS.sentence("3", "No limit and no policy changes; other contingent links, state, now and times do not"
                + " change", ContingentEdgeTest::addLeavesTheRest);
        CHECKS.sentence("3", "a refused call changes nothing", ContingentEdgeTest::addRefused);

        CHECKS.sentence("5", "the state is LOAD, else BAD_STATE", ContingentEdgeTest::dropInOtherStates);
        CHECKS.sentence("5", "c is in 1..N-1, else BAD_EVENT", ContingentEdgeTest::dropOutsideEvents);
        CHECKS.sentence("5", "c is contingent, else CONFLICT", ContingentEdgeTest::dropExecutables);
        CHECKS.sentence("5", "the contingent link ending in c is removed", ContingentEdgeTest::dropRemoves);
        CHECKS.sentence("5", "c becomes executable", ContingentEdgeTest::dropMakesExecutable);
        CHECKS.sentence("5", "Contingent links that have c as their activation event stay",
                ContingentEdgeTest::dropLeavesLaterLinks);
        CHECKS.sentence("5", "No limit and no policy changes; state, now and times do not change",
                ContingentEdgeTest::dropLeavesTheRest);
        CHECKS.sentence("5", "a refused call changes nothing", ContingentEdgeTest::dropRefused);
        CHECKS.finish();
    }

    private static void due(String call, int got, int want) {
        CHECKS.due(call, got, want);
    }

    private static void add(ControllableTime x, int a, int c, int lo, int hi, int answer) {
        due("addContingent(" + a + ", " + c + ", " + lo + ", " + hi + ")", x.addContingent(a, c, lo, hi), answer);
    }

    private static void drop(ControllableTime x, int c, int answer) {
        due("dropContingent(" + c + ")", x.dropContingent(c), answer);
    }

    private static void link(ControllableTime x, int c, int a, int lo, int hi) {
        due("linkOf(" + c + ", 0)", x.linkOf(c, 0), a);
        due("linkOf(" + c + ", 1)", x.linkOf(c, 1), lo);
        due("linkOf(" + c + ", 2)", x.linkOf(c, 2), hi);
    }

    private static void noLink(ControllableTime x, int c) {
        link(x, c, 100, 100, 100);
    }

    private static void addInOtherStates() {
        for (Situation from : Situation.values()) {
            ControllableTime x = from.make();
            due("addContingent(0, 4, 1, 1) " + from, x.addContingent(0, 4, 1, 1), from.state == 0 ? 0 : 101);
            due("addContingent(4, 1, 5, 5) " + from, x.addContingent(4, 1, 5, 5), from.state == 0 ? 0 : 101);
        }
    }

    private static void addOutsideEvents() {
        for (int n = 3; n <= 6; n++) {
            ControllableTime x = new ControllableTime(n, 5);
            int[] outside = {Checks.LEAST, Checks.LEAST + 1, -n, -1, n, n + 1, 36, Checks.GREATEST};
            for (int e : outside) {
                for (int inside = 0; inside < n; inside++) {
                    add(x, e, inside, 1, 1, 102);
                    add(x, inside, e, 1, 1, 102);
                }
                for (int other : outside) {
                    add(x, e, other, 1, 1, 102);
                }
            }
            CHECKS.sameFace("after links outside", x, new ControllableTime(n, 5));
            add(x, 0, n - 1, 1, 1, 0);
            add(x, n - 1, 1, 1, 1, 0);
        }
    }

    private static void addToTheOrigin() {
        for (int n = 3; n <= 6; n++) {
            ControllableTime x = new ControllableTime(n, 5);
            for (int a = 0; a < n; a++) {
                add(x, a, 0, 1, 1, 102);
            }
            add(x, 0, 1, 1, 1, 0);
            add(x, 1, 0, 1, 1, 102);
            due("start()", x.start(), 0);
            due("timeOf(0)", x.timeOf(0), 0);
        }
    }

    private static void addToItself() {
        for (int n = 3; n <= 6; n++) {
            ControllableTime x = new ControllableTime(n, 5);
            for (int e = 0; e < n; e++) {
                add(x, e, e, 1, 1, 102);
            }
            add(x, 0, 2, 1, 1, 0);
            add(x, 2, 2, 1, 1, 102);
            link(x, 2, 0, 1, 1);
        }
    }

    private static void addLeastLo() {
        for (int h = 3; h <= 7; h++) {
            ControllableTime x = new ControllableTime(3, h);
            int[] below = {0, -1, -h, Checks.LEAST + 1, Checks.LEAST};
            for (int lo : below) {
                add(x, 0, 1, lo, 1, 103);
                add(x, 0, 1, lo, h, 103);
                add(x, 0, 1, lo, lo, 103);
                add(x, 0, 1, lo, 0, 103);
            }
            noLink(x, 1);
            add(x, 0, 1, 1, h, 0);
            link(x, 1, 0, 1, h);
            add(x, 1, 2, 1, 1, 0);
            link(x, 2, 1, 1, 1);
        }
    }

    private static void addLoAndHi() {
        for (int h = 3; h <= 7; h++) {
            ControllableTime x = new ControllableTime(3, h);
            for (int lo = 1; lo <= h; lo++) {
                for (int hi = 0; hi < lo; hi++) {
                    add(x, 0, 1, lo, hi, 103);
                }
                add(x, 0, 1, lo, Checks.LEAST, 103);
                add(x, 0, 1, lo, -lo, 103);
                noLink(x, 1);
                add(x, 0, 1, lo, lo, 0);
                link(x, 1, 0, lo, lo);
                drop(x, 1, 0);
            }
            add(x, 0, 1, Checks.GREATEST, Checks.LEAST, 103);
            add(x, 0, 1, Checks.GREATEST, h, 103);
            add(x, 0, 1, h + 1, h, 103);
        }
    }

    private static void addGreatestHi() {
        for (int h = 3; h <= 7; h++) {
            ControllableTime x = new ControllableTime(3, h);
            int[] above = {h + 1, h + 2, 100, Checks.GREATEST - 1, Checks.GREATEST};
            for (int hi : above) {
                add(x, 0, 1, 1, hi, 103);
                add(x, 0, 1, h, hi, 103);
                add(x, 0, 1, hi, hi, 103);
                add(x, 0, 1, Checks.LEAST, hi, 103);
            }
            noLink(x, 1);
            add(x, 0, 1, h, h, 0);
            link(x, 1, 0, h, h);
            add(x, 0, 2, 2, h, 0);
            link(x, 2, 0, 2, h);
        }
    }

    private static void addTwice() {
        for (int c = 1; c < 6; c++) {
            ControllableTime x = new ControllableTime(6, 7);
            add(x, 0, c, 2, 3, 0);
            for (int a = 0; a < 6; a++) {
                add(x, a, c, 2, 3, a == c ? 102 : 104);
                add(x, a, c, 1, 7, a == c ? 102 : 104);
            }
            link(x, c, 0, 2, 3);
            drop(x, c, 0);
            add(x, 0, c, 1, 7, 0);
            link(x, c, 0, 1, 7);
        }
    }

    /** Circles of 2, 3, 4 and 5 links, closed at every place. */
    private static void addCircles() {
        for (int length = 2; length <= 5; length++) {
            for (int first = 1; first < 6; first++) {
                ControllableTime x = new ControllableTime(6, 7);
                for (int k = 1; k < length; k++) {
                    add(x, onRing(first, k - 1), onRing(first, k), 1, 1, 0);
                }
                for (int k = 1; k < length; k++) {
                    add(x, onRing(first, k), first, 1, 1, 104);
                }
                noLink(x, first);
                add(x, 0, first, 1, 1, 0);
            }
        }
    }

    /** The k-th of the events 1..5 after the first, from 5 on to 1 again. */
    private static int onRing(int first, int k) {
        return (first - 1 + k) % 5 + 1;
    }

    private static void addWalksThatEnd() {
        ControllableTime x = new ControllableTime(6, 7);
        add(x, 0, 1, 1, 1, 0);
        add(x, 1, 2, 1, 1, 0);
        add(x, 2, 3, 1, 1, 0);
        add(x, 3, 4, 1, 1, 0);
        add(x, 4, 5, 1, 1, 0);
        drop(x, 3, 0);
        add(x, 5, 3, 1, 1, 104);
        add(x, 4, 3, 1, 1, 104);
        add(x, 2, 3, 1, 1, 0);
        drop(x, 1, 0);
        add(x, 5, 1, 1, 1, 104);
        drop(x, 4, 0);
        add(x, 5, 1, 1, 1, 0);
        add(x, 3, 4, 1, 1, 104);
        add(x, 0, 4, 1, 1, 0);
        link(x, 1, 5, 1, 1);
        link(x, 5, 4, 1, 1);
        link(x, 4, 0, 1, 1);
        due("verdict() of a chain of five", x.verdict(), 1);
        due("start()", x.start(), 0);
        CHECKS.steps(x, 0, 16, 32, 2, 4, 8);
        CHECKS.times(x, 0, 3, 4, 5, 1, 2);
    }

    private static void addOrder() {
        ControllableTime x = new ControllableTime(4, 5);
        add(x, 4, 1, 0, 9, 102);
        add(x, 1, 0, 0, 9, 102);
        add(x, 2, 2, 3, 2, 102);
        add(x, Checks.LEAST, Checks.GREATEST, Checks.GREATEST, Checks.LEAST, 102);
        add(x, 0, 1, 1, 2, 0);
        add(x, 1, 1, 1, 2, 102);
        add(x, -1, 1, 1, 2, 102);
        add(x, 0, 1, 0, 2, 103);
        add(x, 0, 1, 1, 6, 103);
        add(x, 0, 1, 3, 2, 103);
        add(x, 0, 1, 1, 2, 104);
        add(x, 3, 2, 1, 1, 0);
        add(x, 2, 3, 0, 1, 103);
        add(x, 2, 3, 1, 6, 103);
        add(x, 2, 3, 1, 1, 104);
        due("start()", x.start(), 0);
        addInvalid(x);
        for (int k = 0; k < 6; k++) {
            x.step();
        }
        due("state()", x.state(), 2);
        addInvalid(x);
    }

    /** Each further condition fails, but the state is looked at first. */
    private static void addInvalid(ControllableTime x) {
        add(x, 4, 1, 1, 1, 101);
        add(x, 1, 0, 1, 1, 101);
        add(x, 3, 3, 1, 1, 101);
        add(x, 0, 3, 0, 1, 101);
        add(x, 0, 1, 1, 2, 101);
        add(x, 2, 3, 1, 1, 101);
        add(x, Checks.LEAST, Checks.GREATEST, Checks.GREATEST, Checks.LEAST, 101);
    }

    private static void addStores() {
        for (int a = 0; a < 6; a++) {
            for (int c = 1; c < 6; c++) {
                for (int lo = 1; lo <= 7 && a != c; lo++) {
                    ControllableTime x = new ControllableTime(6, 7);
                    add(x, a, c, lo, 7, 0);
                    link(x, c, a, lo, 7);
                }
            }
        }
    }

    private static void addMakesContingent() {
        ControllableTime x = new ControllableTime(3, 4);
        add(x, 0, 1, 2, 3, 0);
        drop(x, 1, 0);
        add(x, 0, 1, 1, 3, 0);
        due("start()", x.start(), 0);
        due("reveal(1) is not of a wrong event", x.reveal(1), 104);
        due("step() executes event 2 alone", x.step(), 4);
        due("reveal(1)", x.reveal(1), 0);
        CHECKS.times(x, 0, 1, 0);
    }

    private static void addLeavesTheRest() {
        ControllableTime x = Situation.LOADED.make();
        ControllableTime y = Situation.LOADED.make();
        x.setPolicy(1, 1);
        y.setPolicy(1, 1);
        add(x, 3, 4, 1, 1, 0);
        for (int field = 0; field < 3; field++) {
            for (int e = 1; e < 4; e++) {
                due("linkOf(" + e + ", " + field + ")", x.linkOf(e, field), y.linkOf(e, field));
            }
        }
        for (int u = 0; u < 5; u++) {
            due("policyOf(" + u + ")", x.policyOf(u), u == 0 ? 102 : u == 2 ? 0 : 1);
            for (int v = 0; v < 5; v++) {
                due("limit(" + u + ", " + v + ")", x.limit(u, v), y.limit(u, v));
            }
        }
        CHECKS.stateAndNow("after it", x, 0, 0);
        CHECKS.times(x, 100, 100, 100, 100, 100);
        drop(x, 4, 0);
        CHECKS.sameFace("after it was dropped", x, y);
    }

    private static void addRefused() {
        for (Situation from : Situation.values()) {
            boolean load = from.state == 0;
            CHECKS.changesNothing("addContingent(5, 4, 1, 1)", from, load ? 102 : 101,
                    x -> x.addContingent(5, 4, 1, 1));
            CHECKS.changesNothing("addContingent(4, 0, 1, 1)", from, load ? 102 : 101,
                    x -> x.addContingent(4, 0, 1, 1));
            CHECKS.changesNothing("addContingent(4, 4, 1, 1)", from, load ? 102 : 101,
                    x -> x.addContingent(4, 4, 1, 1));
            CHECKS.changesNothing("addContingent(0, 4, 0, 1)", from, load ? 103 : 101,
                    x -> x.addContingent(0, 4, 0, 1));
            CHECKS.changesNothing("addContingent(0, 4, 1, 6)", from, load ? 103 : 101,
                    x -> x.addContingent(0, 4, 1, 6));
            CHECKS.changesNothing("addContingent(0, 2, 2, 1)", from, load ? 103 : 101,
                    x -> x.addContingent(0, 2, 2, 1));
            if (from != Situation.NEW) {
                CHECKS.changesNothing("addContingent(0, 2, 1, 1)", from, load ? 104 : 101,
                        x -> x.addContingent(0, 2, 1, 1));
                CHECKS.changesNothing("addContingent(3, 1, 1, 1)", from, load ? 104 : 101,
                        x -> x.addContingent(3, 1, 1, 1));
            }
            if (!load) {
                CHECKS.changesNothing("addContingent(0, 4, 1, 1)", from, 101, x -> x.addContingent(0, 4, 1, 1));
            }
        }
    }

    private static void dropInOtherStates() {
        for (Situation from : Situation.values()) {
            boolean load = from.state == 0;
            ControllableTime x = from.make();
            due("dropContingent(0) " + from, x.dropContingent(0), load ? 102 : 101);
            due("dropContingent(5) " + from, x.dropContingent(5), load ? 102 : 101);
            due("dropContingent(4) " + from, x.dropContingent(4), load ? 104 : 101);
            due("dropContingent(2) " + from, x.dropContingent(2), !load ? 101 : from.isContingent(2) ? 0 : 104);
        }
    }

    private static void dropOutsideEvents() {
        for (int n = 3; n <= 6; n++) {
            ControllableTime x = new ControllableTime(n, 5);
            add(x, 0, n - 1, 1, 1, 0);
            add(x, 0, 1, 1, 1, 0);
            int[] outside = {Checks.LEAST, Checks.LEAST + 1, -n, -1, 0, n, n + 1, 36, Checks.GREATEST};
            for (int e : outside) {
                drop(x, e, 102);
            }
            link(x, n - 1, 0, 1, 1);
            drop(x, n - 1, 0);
            drop(x, 1, 0);
        }
    }

    private static void dropExecutables() {
        for (int n = 3; n <= 6; n++) {
            ControllableTime x = new ControllableTime(n, 5);
            for (int e = 1; e < n; e++) {
                drop(x, e, 104);
                add(x, 0, e, 1, 2, 0);
                drop(x, e, 0);
                drop(x, e, 104);
            }
            add(x, 1, 2, 1, 2, 0);
            drop(x, 1, 104);
            link(x, 2, 1, 1, 2);
        }
    }

    private static void dropRemoves() {
        ControllableTime x = new ControllableTime(4, 5);
        add(x, 0, 1, 2, 5, 0);
        add(x, 0, 2, 3, 4, 0);
        drop(x, 1, 0);
        noLink(x, 1);
        link(x, 2, 0, 3, 4);
        add(x, 3, 1, 1, 2, 0);
        link(x, 1, 3, 1, 2);
        drop(x, 1, 0);
        drop(x, 2, 0);
        CHECKS.sameFace("after all links were dropped", x, new ControllableTime(4, 5));
    }

    private static void dropMakesExecutable() {
        ControllableTime x = new ControllableTime(3, 4);
        add(x, 0, 1, 2, 3, 0);
        due("addRequirement", x.addRequirement(0, 1, 0, 0), 0);
        due("verdict() while event 1 is contingent", x.verdict(), 0);
        drop(x, 1, 0);
        due("verdict() when event 1 is executable", x.verdict(), 1);
        due("start()", x.start(), 0);
        due("reveal(1)", x.reveal(1), 102);
        due("step()", x.step(), 6);
        CHECKS.times(x, 0, 0, 0);
    }

    private static void dropLeavesLaterLinks() {
        ControllableTime x = new ControllableTime(5, 6);
        add(x, 0, 1, 2, 3, 0);
        add(x, 1, 2, 1, 2, 0);
        add(x, 1, 3, 2, 2, 0);
        add(x, 2, 4, 1, 1, 0);
        drop(x, 1, 0);
        noLink(x, 1);
        link(x, 2, 1, 1, 2);
        link(x, 3, 1, 2, 2);
        link(x, 4, 2, 1, 1);
        due("start()", x.start(), 0);
        CHECKS.steps(x, 2);
        due("reveal(2), activated by the event that is executable now", x.reveal(2), 0);
        CHECKS.steps(x, 0, 8 + 16);
        CHECKS.times(x, 0, 0, 1, 2, 2);
        due("restart()", x.restart(), 0);
        drop(x, 2, 0);
        link(x, 3, 1, 2, 2);
        link(x, 4, 2, 1, 1);
        due("start()", x.start(), 0);
        CHECKS.steps(x, 2 + 4, 16, 8);
    }

    private static void dropLeavesTheRest() {
        ControllableTime x = Situation.LOADED.make();
        drop(x, 2, 0);
        drop(x, 3, 0);
        ControllableTime y = new ControllableTime(5, 5);
        y.addRequirement(2, 4, -1, 2);
        y.setPolicy(3, 1);
        y.setPolicy(4, 1);
        CHECKS.sameFace("after both links were dropped", x, y);
        due("limit(2, 4)", x.limit(2, 4), 2);
        due("limit(4, 2)", x.limit(4, 2), 1);
        due("policyOf(3)", x.policyOf(3), 1);
        CHECKS.stateAndNow("after both links were dropped", x, 0, 0);
        CHECKS.times(x, 100, 100, 100, 100, 100);
    }

    private static void dropRefused() {
        for (Situation from : Situation.values()) {
            boolean load = from.state == 0;
            CHECKS.changesNothing("dropContingent(0)", from, load ? 102 : 101, x -> x.dropContingent(0));
            CHECKS.changesNothing("dropContingent(5)", from, load ? 102 : 101, x -> x.dropContingent(5));
            CHECKS.changesNothing("dropContingent(4)", from, load ? 104 : 101, x -> x.dropContingent(4));
            if (!load) {
                CHECKS.changesNothing("dropContingent(2)", from, 101, x -> x.dropContingent(2));
                CHECKS.changesNothing("dropContingent(3)", from, 101, x -> x.dropContingent(3));
            }
        }
    }
}
