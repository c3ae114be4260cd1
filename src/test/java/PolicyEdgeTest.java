/** Promises 6 and 17, sentence by sentence: setPolicy and policyOf. */
public final class PolicyEdgeTest {
    private static final Checks CHECKS = new Checks();

    public static void main(String[] args) {
        CHECKS.sentence("6", "is allowed in every state", PolicyEdgeTest::everyState);
        CHECKS.sentence("6", "and for contingent events too", PolicyEdgeTest::contingentEvents);
        CHECKS.sentence("6", "e is in 1..N-1, else BAD_EVENT", PolicyEdgeTest::outsideEvents);
        CHECKS.sentence("6", "(so event 0 is refused)", PolicyEdgeTest::originRefused);
        CHECKS.sentence("6", "policy is EAGER or LAZY, else BAD_BOUNDS", PolicyEdgeTest::otherPolicies);
        CHECKS.sentence("6", "the order of the conditions", PolicyEdgeTest::order);
        CHECKS.sentence("6", "the policy of e becomes policy", PolicyEdgeTest::becomes);
        CHECKS.sentence("6", "also if it was that already", PolicyEdgeTest::wasThatAlready);
        CHECKS.sentence("6", "The policy is kept while e is contingent", PolicyEdgeTest::keptWhileContingent);
        CHECKS.sentence("6", "but matters only while e is executable", PolicyEdgeTest::noMatterWhileContingent);
        CHECKS.sentence("6", "and only in step", PolicyEdgeTest::onlyInStep);
        CHECKS.sentence("6", "Nothing else changes", PolicyEdgeTest::nothingElseChanges);
        CHECKS.sentence("6", "a refused call changes nothing", PolicyEdgeTest::refused);

        CHECKS.sentence("17", "BAD_EVENT if e is not in 1..N-1", PolicyEdgeTest::readOutside);
        CHECKS.sentence("17", "(so also for event 0)", PolicyEdgeTest::readOrigin);
        CHECKS.sentence("17", "whether e is executable or contingent", PolicyEdgeTest::readContingent);
        CHECKS.sentence("17", "It works in every state", PolicyEdgeTest::readInEveryState);
        CHECKS.sentence("17", "and changes nothing", PolicyEdgeTest::readChangesNothing);
        CHECKS.finish();
    }

    private static void due(String call, int got, int want) {
        CHECKS.due(call, got, want);
    }

    private static void set(ControllableTime x, int e, int policy, int answer) {
        due("setPolicy(" + e + ", " + policy + ")", x.setPolicy(e, policy), answer);
    }

    private static void policies(ControllableTime x, int... want) {
        for (int e = 1; e <= want.length; e++) {
            due("policyOf(" + e + ")", x.policyOf(e), want[e - 1]);
        }
    }

    private static int[] outside(int n) {
        return new int[] {Checks.LEAST, Checks.LEAST + 1, -n, -1, n, n + 1, 36, Checks.GREATEST - 1, Checks.GREATEST};
    }

    private static void everyState() {
        for (Situation from : Situation.values()) {
            ControllableTime x = from.make();
            for (int policy = 1; policy >= 0; policy--) {
                for (int e = 1; e < 5; e++) {
                    due("setPolicy(" + e + ", " + policy + ") " + from, x.setPolicy(e, policy), 0);
                    due("policyOf(" + e + ") " + from, x.policyOf(e), policy);
                }
            }
        }
    }

    private static void contingentEvents() {
        ControllableTime x = new ControllableTime(4, 5);
        x.addContingent(0, 1, 1, 2);
        x.addContingent(1, 3, 1, 2);
        set(x, 1, 1, 0);
        set(x, 3, 1, 0);
        policies(x, 1, 0, 1);
        set(x, 3, 0, 0);
        policies(x, 1, 0, 0);
        due("start()", x.start(), 0);
        set(x, 1, 0, 0);
        set(x, 3, 1, 0);
        policies(x, 0, 0, 1);
    }

    private static void outsideEvents() {
        for (int n = 3; n <= 6; n++) {
            ControllableTime x = new ControllableTime(n, 5);
            for (int e : outside(n)) {
                set(x, e, 0, 102);
                set(x, e, 1, 102);
            }
            set(x, n - 1, 1, 0);
            set(x, 1, 1, 0);
            due("policyOf(N-1)", x.policyOf(n - 1), 1);
        }
    }

    private static void originRefused() {
        for (Situation from : Situation.values()) {
            ControllableTime x = from.make();
            set(x, 0, 0, 102);
            set(x, 0, 1, 102);
        }
    }

    private static void otherPolicies() {
        int[] strange = {Checks.LEAST, Checks.LEAST + 1, -2, -1, 2, 3, 100, 256, 257, Checks.GREATEST};
        for (int n = 3; n <= 6; n++) {
            ControllableTime x = new ControllableTime(n, 5);
            x.addContingent(0, 1, 1, 1);
            x.setPolicy(2, 1);
            for (int policy : strange) {
                for (int e = 1; e < n; e++) {
                    set(x, e, policy, 103);
                    due("policyOf(" + e + ")", x.policyOf(e), e == 2 ? 1 : 0);
                }
            }
        }
    }

    private static void order() {
        ControllableTime x = new ControllableTime(4, 5);
        set(x, 0, 2, 102);
        set(x, 0, -1, 102);
        set(x, 4, 2, 102);
        set(x, -1, -1, 102);
        set(x, Checks.LEAST, Checks.GREATEST, 102);
        set(x, 1, 2, 103);
    }

    private static void becomes() {
        ControllableTime x = new ControllableTime(6, 7);
        for (int set = 31; set >= 0; set--) {
            for (int e = 1; e < 6; e++) {
                set(x, e, set >> (e - 1) & 1, 0);
            }
            policies(x, set & 1, set >> 1 & 1, set >> 2 & 1, set >> 3 & 1, set >> 4 & 1);
            due("start()", x.start(), 0);
            due("step() executes what is EAGER", x.step(), (31 - set) * 2);
            due("restart()", x.restart(), 0);
        }
    }

    private static void wasThatAlready() {
        ControllableTime x = new ControllableTime(3, 3);
        set(x, 1, 0, 0);
        set(x, 1, 0, 0);
        policies(x, 0, 0);
        set(x, 1, 1, 0);
        set(x, 1, 1, 0);
        policies(x, 1, 0);
    }

    private static void keptWhileContingent() {
        ControllableTime x = new ControllableTime(4, 5);
        set(x, 1, 1, 0);
        due("addContingent(0, 1, 1, 2)", x.addContingent(0, 1, 1, 2), 0);
        due("addContingent(0, 2, 1, 2)", x.addContingent(0, 2, 1, 2), 0);
        policies(x, 1, 0, 0);
        due("start()", x.start(), 0);
        CHECKS.steps(x, 8, 0, 2 + 4);
        policies(x, 1, 0, 0);
        due("restart()", x.restart(), 0);
        due("dropContingent(1)", x.dropContingent(1), 0);
        due("dropContingent(2)", x.dropContingent(2), 0);
        policies(x, 1, 0, 0);
        due("start()", x.start(), 0);
        CHECKS.steps(x, 4 + 8, 0, 0, 0, 0, 2);
    }

    /** A LAZY outcome comes neither later nor earlier than an EAGER one, and can be revealed just as well. */
    private static void noMatterWhileContingent() {
        for (int policy = 0; policy <= 1; policy++) {
            ControllableTime x = new ControllableTime(4, 5);
            x.addContingent(0, 1, 1, 3);
            x.addContingent(1, 2, 1, 1);
            set(x, 1, policy, 0);
            set(x, 2, policy, 0);
            due("verdict()", x.verdict(), 1);
            due("start()", x.start(), 0);
            CHECKS.steps(x, 8, 0, 0, 2, 4);
            due("restart()", x.restart() + x.start(), 0);
            CHECKS.steps(x, 8, 0);
            due("reveal(1)", x.reveal(1), 0);
            CHECKS.steps(x, 0, 4);
            CHECKS.times(x, 0, 2, 3, 0);
        }
    }

    private static void onlyInStep() {
        for (int set = 0; set < 16; set++) {
            ControllableTime x = new ControllableTime(5, 5);
            x.addContingent(1, 2, 1, 4);
            for (int e = 1; e < 5; e++) {
                x.setPolicy(e, set >> (e - 1) & 1);
            }
            x.addRequirement(0, 1, 1, 1);
            due("verdict() of a network that just fits", x.verdict(), 1);
            due("start()", x.start(), 0);
            CHECKS.times(x, 0, 100, 100, 100, 100);
            due("reveal(2)", x.reveal(2), 104);
            due("restart()", x.restart(), 0);
            x.addRequirement(2, 3, 1, 1);
            due("verdict() of a network that just does not", x.verdict(), 0);
            due("start()", x.start(), 105);
        }
        ControllableTime y = new ControllableTime(3, 5);
        due("start()", y.start(), 0);
        set(y, 1, 1, 0);
        due("no event is executed by setPolicy", y.timeOf(2), 100);
        CHECKS.steps(y, 4);
        set(y, 1, 0, 0);
        due("no event is executed by setPolicy", y.timeOf(1), 100);
        CHECKS.steps(y, 2);
        CHECKS.times(y, 0, 1, 0);
    }

    /** The policy is set back at once, so whatever else setPolicy changed would show. */
    private static void nothingElseChanges() {
        for (Situation from : Situation.values()) {
            for (int e = 1; e < 5; e++) {
                int event = e;
                CHECKS.changesNothing("setPolicy(" + e + ") there and back", from, 0,
                        x -> x.setPolicy(event, 1 - x.policyOf(event)) + x.setPolicy(event, 1 - x.policyOf(event)));
                CHECKS.changesNothing("setPolicy(" + e + ") as it is", from, 0,
                        x -> x.setPolicy(event, x.policyOf(event)));
            }
        }
    }

    private static void refused() {
        for (Situation from : Situation.values()) {
            CHECKS.changesNothing("setPolicy(0, 1)", from, 102, x -> x.setPolicy(0, 1));
            CHECKS.changesNothing("setPolicy(5, 1)", from, 102, x -> x.setPolicy(5, 1));
            CHECKS.changesNothing("setPolicy(1, 2)", from, 103, x -> x.setPolicy(1, 2));
            CHECKS.changesNothing("setPolicy(4, -1)", from, 103, x -> x.setPolicy(4, -1));
        }
    }

    private static void readOutside() {
        for (int n = 3; n <= 6; n++) {
            ControllableTime x = new ControllableTime(n, 5);
            for (int e : outside(n)) {
                due("policyOf(" + e + ") of " + n, x.policyOf(e), 102);
            }
            due("policyOf(1)", x.policyOf(1), 0);
            due("policyOf(N-1)", x.policyOf(n - 1), 0);
        }
    }

    private static void readOrigin() {
        for (Situation from : Situation.values()) {
            due("policyOf(0) " + from, from.make().policyOf(0), 102);
        }
    }

    private static void readContingent() {
        ControllableTime x = new ControllableTime(5, 5);
        x.addContingent(0, 1, 1, 1);
        x.addContingent(0, 2, 1, 1);
        x.setPolicy(2, 1);
        x.setPolicy(4, 1);
        policies(x, 0, 1, 0, 1);
    }

    private static void readInEveryState() {
        for (Situation from : Situation.values()) {
            ControllableTime x = from.make();
            boolean late = from == Situation.LAST_ROUND || from == Situation.OVER_LATE
                    || from == Situation.BACK_FROM_DONE;
            boolean early = from == Situation.ALL_REVEALED || from == Situation.OVER_EARLY;
            boolean loaded = from != Situation.NEW;
            policies(x, late ? 1 : 0, 0, loaded ? 1 : 0, loaded && !early ? 1 : 0);
            due("policyOf(5) " + from, x.policyOf(5), 102);
        }
    }

    private static void readChangesNothing() {
        int[] events = {Checks.LEAST, -1, 0, 1, 2, 3, 4, 5, Checks.GREATEST};
        for (Situation from : Situation.values()) {
            CHECKS.changesNothing("policyOf(..)", from, 0, x -> {
                for (int e : events) {
                    x.policyOf(e);
                }
                return 0;
            });
        }
    }
}
