import java.util.function.ToIntFunction;

/** Promises 12 to 16, sentence by sentence: state, now, timeOf, limit and linkOf. For policyOf see PolicyEdgeTest. */
public final class GetterEdgeTest {
    private static final int[] NUMBERS = {Checks.LEAST, Checks.LEAST + 1, -6, -1, 0, 1, 2, 3, 4, 5, 6, 7, 36,
        Checks.GREATEST - 1, Checks.GREATEST};
    private static final Checks CHECKS = new Checks();

    public static void main(String[] args) {
        CHECKS.sentence("12", "answers LOAD, RUN or DONE, the present state", GetterEdgeTest::states);
        CHECKS.sentence("12", "It changes nothing", () -> changesNothing("state()", x -> x.state()));

        CHECKS.sentence("13", "the present round in state RUN", GetterEdgeTest::nowInRun);
        CHECKS.sentence("13", "0 in state LOAD", GetterEdgeTest::nowInLoad);
        CHECKS.sentence("13", "the last round played in state DONE", GetterEdgeTest::nowInDone);
        CHECKS.sentence("13", "It changes nothing", () -> changesNothing("now()", x -> x.now()));

        CHECKS.sentence("14", "BAD_EVENT if e is not in 0..N-1", GetterEdgeTest::timeOfOutside);
        CHECKS.sentence("14", "NONE if e has no time; else the time of e", GetterEdgeTest::timeOfInside);
        CHECKS.sentence("14", "In state LOAD it answers NONE for every event, event 0 included",
                GetterEdgeTest::timeOfInLoad);
        CHECKS.sentence("14", "in RUN and DONE it answers 0 for event 0", GetterEdgeTest::timeOfOrigin);
        CHECKS.sentence("14", "Times stay readable in DONE", GetterEdgeTest::timeOfInDone);
        CHECKS.sentence("14", "It changes nothing", GetterEdgeTest::timeOfChangesNothing);

        CHECKS.sentence("15", "BAD_EVENT if u or v is not in 0..N-1", GetterEdgeTest::limitOutside);
        CHECKS.sentence("15", "or u == v", GetterEdgeTest::limitOfItself);
        CHECKS.sentence("15", "as loaded: the default value, or what addRequirement and dropRequirement have made of it",
                GetterEdgeTest::limitAsLoaded);
        CHECKS.sentence("15", "Contingent links have no influence on it", GetterEdgeTest::limitWithLinks);
        CHECKS.sentence("15", "times given in play have no influence on it", GetterEdgeTest::limitInPlay);
        CHECKS.sentence("15", "The answer can be negative", GetterEdgeTest::limitNegative);
        CHECKS.sentence("15", "It works in every state", GetterEdgeTest::limitInEveryState);
        CHECKS.sentence("15", "and changes nothing", GetterEdgeTest::limitChangesNothing);

        CHECKS.sentence("16", "e is in 1..N-1, else BAD_EVENT", GetterEdgeTest::linkOutside);
        CHECKS.sentence("16", "(so event 0 is refused)", GetterEdgeTest::linkOfOrigin);
        CHECKS.sentence("16", "field is in 0..2, else BAD_BOUNDS", GetterEdgeTest::linkFields);
        CHECKS.sentence("16", "also if e is not contingent", GetterEdgeTest::linkFieldsOfExecutables);
        CHECKS.sentence("16", "the order of the conditions", GetterEdgeTest::linkOrder);
        CHECKS.sentence("16", "it answers NONE if e is not contingent", GetterEdgeTest::linkOfExecutables);
        CHECKS.sentence("16", "the activation event if field is 0, lo if field is 1, hi if field is 2",
                GetterEdgeTest::linkOfContingents);
        CHECKS.sentence("16", "It works in every state", GetterEdgeTest::linkInEveryState);
        CHECKS.sentence("16", "and changes nothing", GetterEdgeTest::linkChangesNothing);
        CHECKS.finish();
    }

    private static void due(String call, int got, int want) {
        CHECKS.due(call, got, want);
    }

    private static int[] outside(int n) {
        return new int[] {Checks.LEAST, Checks.LEAST + 1, -n, -1, n, n + 1, 36, Checks.GREATEST - 1, Checks.GREATEST};
    }

    private static void changesNothing(String call, ToIntFunction<ControllableTime> getter) {
        for (Situation from : Situation.values()) {
            int answer = getter.applyAsInt(from.make());
            CHECKS.changesNothing(call, from, answer, getter);
            CHECKS.changesNothing(call + " after a first one", from, answer, x -> {
                getter.applyAsInt(x);
                return getter.applyAsInt(x);
            });
        }
    }

    private static void states() {
        for (Situation from : Situation.values()) {
            due("state() " + from, from.make().state(), from.state);
        }
        ControllableTime x = new ControllableTime(3, 3);
        x.addContingent(0, 1, 1, 3);
        due("state() when new", x.state(), 0);
        x.start();
        for (int t = 0; t <= 3; t++) {
            due("state() in round " + t, x.state(), 1);
            x.step();
        }
        due("state() when over", x.state(), 2);
        x.restart();
        due("state() after restart", x.state(), 0);
    }

    private static void nowInRun() {
        for (Situation from : Situation.values()) {
            if (from.state == 1) {
                due("now() " + from, from.make().now(), from.now);
            }
        }
        for (int h = 3; h <= 7; h++) {
            ControllableTime x = new ControllableTime(3, h);
            x.addContingent(0, 1, 1, h);
            x.start();
            for (int t = 0; t <= h; t++) {
                due("now() in round " + t, x.now(), t);
                x.reveal(0);
                due("now() in round " + t + " after a refused call", x.now(), t);
                x.step();
            }
        }
    }

    private static void nowInLoad() {
        for (Situation from : Situation.values()) {
            if (from.state == 0) {
                due("now() " + from, from.make().now(), 0);
            }
        }
        ControllableTime x = new ControllableTime(3, 7);
        x.setPolicy(1, 1);
        for (int rounds = 0; rounds <= 8; rounds++) {
            x.start();
            for (int k = 0; k < rounds; k++) {
                x.step();
            }
            due("restart()", x.restart(), 0);
            due("now() after a restart in round " + rounds, x.now(), 0);
        }
    }

    private static void nowInDone() {
        for (Situation from : Situation.values()) {
            if (from.state == 2) {
                due("now() " + from, from.make().now(), from.now);
            }
        }
        for (int last = 0; last <= 7; last++) {
            ControllableTime x = new ControllableTime(3, 7);
            x.addRequirement(0, 2, last, last);
            x.start();
            for (int t = 0; t <= last; t++) {
                x.step();
            }
            due("state()", x.state(), 2);
            due("now() after a last round " + last, x.now(), last);
            x.step();
            due("now() after a refused step", x.now(), last);
        }
    }

    private static void timeOfOutside() {
        for (int n = 3; n <= 6; n++) {
            ControllableTime x = new ControllableTime(n, 4);
            for (int state = 0; state < 3; state++) {
                due("state()", x.state(), state);
                for (int e : outside(n)) {
                    due("timeOf(" + e + ") of " + n, x.timeOf(e), 102);
                }
                due("timeOf(0) of " + n, x.timeOf(0), state == 0 ? 100 : 0);
                due("timeOf(N-1) of " + n, x.timeOf(n - 1), state == 2 ? 0 : 100);
                x.step();
                x.start();
            }
        }
    }

    private static void timeOfInside() {
        for (Situation from : Situation.values()) {
            ControllableTime x = from.make();
            for (int e = 0; e < 5; e++) {
                due("timeOf(" + e + ") " + from, x.timeOf(e), from.time(e));
            }
        }
    }

    private static void timeOfInLoad() {
        for (Situation from : Situation.values()) {
            if (from.state == 0) {
                CHECKS.times(from.make(), 100, 100, 100, 100, 100);
            }
        }
    }

    private static void timeOfOrigin() {
        for (Situation from : Situation.values()) {
            if (from.state != 0) {
                ControllableTime x = from.make();
                due("timeOf(0) " + from, x.timeOf(0), 0);
                x.step();
                due("timeOf(0) " + from + " and a step", x.timeOf(0), 0);
            }
        }
    }

    private static void timeOfInDone() {
        ControllableTime early = Situation.OVER_EARLY.make();
        ControllableTime late = Situation.OVER_LATE.make();
        for (int k = 0; k < 3; k++) {
            CHECKS.times(early, 0, 0, 2, 3, 2);
            CHECKS.times(late, 0, 1, 4, 5, 5);
            early.step();
            late.step();
            early.verdict();
            late.setPolicy(1, 0);
        }
    }

    private static void timeOfChangesNothing() {
        for (int e : NUMBERS) {
            changesNothing("timeOf(" + e + ")", x -> x.timeOf(e));
        }
    }

    private static void limitOutside() {
        for (int n = 3; n <= 6; n++) {
            ControllableTime x = new ControllableTime(n, 4);
            for (int state = 0; state < 3; state++) {
                due("state()", x.state(), state);
                for (int e : outside(n)) {
                    for (int inside = 0; inside < n; inside++) {
                        due("limit(" + e + ", " + inside + ") of " + n, x.limit(e, inside), 102);
                        due("limit(" + inside + ", " + e + ") of " + n, x.limit(inside, e), 102);
                    }
                    for (int other : outside(n)) {
                        due("limit(" + e + ", " + other + ") of " + n, x.limit(e, other), 102);
                    }
                }
                due("limit(0, N-1) of " + n, x.limit(0, n - 1), 4);
                due("limit(N-1, 0) of " + n, x.limit(n - 1, 0), 0);
                x.step();
                x.start();
            }
        }
    }

    private static void limitOfItself() {
        for (int n = 3; n <= 6; n++) {
            ControllableTime x = new ControllableTime(n, 4);
            for (int e = 0; e < n; e++) {
                due("limit(" + e + ", " + e + ") of " + n, x.limit(e, e), 102);
            }
        }
        for (Situation from : Situation.values()) {
            due("limit(2, 2) " + from, from.make().limit(2, 2), 102);
        }
    }

    private static void limitAsLoaded() {
        ControllableTime x = new ControllableTime(4, 6);
        due("limit(1, 2) by default", x.limit(1, 2), 6);
        due("limit(2, 1) by default", x.limit(2, 1), 6);
        x.addRequirement(1, 2, -3, 5);
        due("limit(1, 2) as added", x.limit(1, 2), 5);
        due("limit(2, 1) as added", x.limit(2, 1), 3);
        x.addRequirement(2, 1, -4, 1);
        due("limit(1, 2) as added twice", x.limit(1, 2), 4);
        due("limit(2, 1) as added twice", x.limit(2, 1), 1);
        x.dropRequirement(2, 1);
        due("limit(1, 2) as dropped", x.limit(1, 2), 6);
        due("limit(2, 1) as dropped", x.limit(2, 1), 6);
        due("limit(0, 1) all the time", x.limit(0, 1), 6);
        due("limit(1, 0) all the time", x.limit(1, 0), 0);
    }

    private static void limitWithLinks() {
        ControllableTime x = new ControllableTime(4, 6);
        x.addContingent(0, 1, 2, 3);
        x.addContingent(1, 2, 1, 1);
        for (int k = 0; k < 2; k++) {
            due("limit(0, 1)", x.limit(0, 1), 6);
            due("limit(1, 0)", x.limit(1, 0), 0);
            due("limit(1, 2)", x.limit(1, 2), 6);
            due("limit(2, 1)", x.limit(2, 1), 6);
            due("limit(0, 2)", x.limit(0, 2), 6);
            due("verdict()", x.verdict(), 1);
        }
        x.addRequirement(0, 1, 1, 5);
        due("limit(0, 1) wider than the link", x.limit(0, 1), 5);
        due("limit(1, 0) wider than the link", x.limit(1, 0), -1);
        x.dropContingent(1);
        due("limit(0, 1) without the link", x.limit(0, 1), 5);
        due("limit(1, 0) without the link", x.limit(1, 0), -1);
    }

    private static void limitInPlay() {
        ControllableTime x = new ControllableTime(4, 6);
        x.addContingent(0, 1, 2, 3);
        x.addRequirement(1, 2, 0, 2);
        x.addRequirement(0, 3, 1, 6);
        x.start();
        for (int k = 0; k < 8; k++) {
            due("limit(0, 1)", x.limit(0, 1), 6);
            due("limit(1, 0)", x.limit(1, 0), 0);
            due("limit(1, 2)", x.limit(1, 2), 2);
            due("limit(2, 1)", x.limit(2, 1), 0);
            due("limit(0, 3)", x.limit(0, 3), 6);
            due("limit(3, 0)", x.limit(3, 0), -1);
            due("limit(2, 3)", x.limit(2, 3), 6);
            x.step();
        }
        due("state()", x.state(), 2);
    }

    private static void limitNegative() {
        for (int h = 3; h <= 7; h++) {
            for (int value = -h; value < 0; value++) {
                ControllableTime x = new ControllableTime(3, h);
                x.addRequirement(1, 2, -h, value);
                due("limit(1, 2)", x.limit(1, 2), value);
                x.addRequirement(0, 1, -value, h);
                due("limit(1, 0)", x.limit(1, 0), value);
                x.addRequirement(0, 2, value, value);
                due("limit(0, 2)", x.limit(0, 2), value);
            }
        }
    }

    private static void limitInEveryState() {
        for (Situation from : Situation.values()) {
            ControllableTime x = from.make();
            for (int u = 0; u < 5; u++) {
                for (int v = 0; v < 5; v++) {
                    due("limit(" + u + ", " + v + ") " + from, x.limit(u, v), limitOf(from, u, v));
                }
            }
        }
    }

    private static int limitOf(Situation from, int u, int v) {
        if (u == v) {
            return 102;
        }
        if (from != Situation.NEW && u == 2 && v == 4) {
            return 2;
        }
        if (from != Situation.NEW && u == 4 && v == 2) {
            return 1;
        }
        if (from == Situation.CONTRADICTORY && u == 1 && v == 4) {
            return 1;
        }
        if (from == Situation.CONTRADICTORY && u == 4 && v == 1) {
            return -3;
        }
        if (from == Situation.TOO_LONG && u == 1 && v == 0) {
            return -2;
        }
        return v == 0 ? 0 : 5;
    }

    private static void limitChangesNothing() {
        changesNothing("limit(..)", x -> {
            int sum = 0;
            for (int u : NUMBERS) {
                for (int v : NUMBERS) {
                    sum += x.limit(u, v);
                }
            }
            return sum;
        });
    }

    private static void linkOutside() {
        for (int n = 3; n <= 6; n++) {
            ControllableTime x = new ControllableTime(n, 4);
            x.addContingent(0, n - 1, 1, 2);
            for (int e : outside(n)) {
                for (int field = 0; field < 3; field++) {
                    due("linkOf(" + e + ", " + field + ") of " + n, x.linkOf(e, field), 102);
                }
            }
            due("linkOf(N-1, 2) of " + n, x.linkOf(n - 1, 2), 2);
            due("linkOf(1, 2) of " + n, x.linkOf(1, 2), 100);
        }
    }

    private static void linkOfOrigin() {
        for (Situation from : Situation.values()) {
            ControllableTime x = from.make();
            for (int field = 0; field < 3; field++) {
                due("linkOf(0, " + field + ") " + from, x.linkOf(0, field), 102);
            }
        }
    }

    private static void linkFields() {
        int[] strange = {Checks.LEAST, Checks.LEAST + 1, -2, -1, 3, 4, 256, Checks.GREATEST - 1, Checks.GREATEST};
        for (Situation from : Situation.values()) {
            ControllableTime x = from.make();
            for (int field : strange) {
                due("linkOf(2, " + field + ") " + from, x.linkOf(2, field), 103);
                due("linkOf(3, " + field + ") " + from, x.linkOf(3, field), 103);
            }
        }
    }

    private static void linkFieldsOfExecutables() {
        int[] strange = {Checks.LEAST, -1, 3, Checks.GREATEST};
        for (Situation from : Situation.values()) {
            ControllableTime x = from.make();
            for (int field : strange) {
                due("linkOf(1, " + field + ") " + from, x.linkOf(1, field), 103);
                due("linkOf(4, " + field + ") " + from, x.linkOf(4, field), 103);
            }
        }
    }

    private static void linkOrder() {
        int[] strange = {Checks.LEAST, -1, 3, Checks.GREATEST};
        for (Situation from : Situation.values()) {
            ControllableTime x = from.make();
            for (int field : strange) {
                due("linkOf(0, " + field + ") " + from, x.linkOf(0, field), 102);
                due("linkOf(-1, " + field + ") " + from, x.linkOf(-1, field), 102);
                due("linkOf(5, " + field + ") " + from, x.linkOf(5, field), 102);
                due("linkOf(4, " + field + ") " + from, x.linkOf(4, field), 103);
            }
        }
    }

    private static void linkOfExecutables() {
        ControllableTime x = new ControllableTime(5, 5);
        x.addContingent(1, 2, 1, 2);
        x.addContingent(0, 3, 1, 2);
        x.dropContingent(3);
        int[] executable = {1, 3, 4};
        for (int e : executable) {
            for (int field = 0; field < 3; field++) {
                due("linkOf(" + e + ", " + field + ")", x.linkOf(e, field), 100);
            }
        }
    }

    private static void linkOfContingents() {
        ControllableTime x = new ControllableTime(6, 7);
        int[][] links = {{0, 1, 1, 7}, {1, 2, 2, 3}, {5, 3, 4, 4}, {3, 4, 1, 1}};
        for (int[] k : links) {
            due("addContingent", x.addContingent(k[0], k[1], k[2], k[3]), 0);
        }
        for (int[] k : links) {
            due("linkOf(" + k[1] + ", 0)", x.linkOf(k[1], 0), k[0]);
            due("linkOf(" + k[1] + ", 1)", x.linkOf(k[1], 1), k[2]);
            due("linkOf(" + k[1] + ", 2)", x.linkOf(k[1], 2), k[3]);
        }
    }

    private static void linkInEveryState() {
        int[][] loaded = {{100, 100, 100}, {1, 2, 3}, {2, 1, 1}, {100, 100, 100}};
        for (Situation from : Situation.values()) {
            ControllableTime x = from.make();
            for (int e = 1; e < 5; e++) {
                for (int field = 0; field < 3; field++) {
                    due("linkOf(" + e + ", " + field + ") " + from, x.linkOf(e, field),
                            from == Situation.NEW ? 100 : loaded[e - 1][field]);
                }
            }
        }
    }

    private static void linkChangesNothing() {
        changesNothing("linkOf(..)", x -> {
            int sum = 0;
            for (int e : NUMBERS) {
                for (int field : NUMBERS) {
                    sum += x.linkOf(e, field);
                }
            }
            return sum;
        });
    }
}
