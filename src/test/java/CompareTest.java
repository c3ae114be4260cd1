/**
 * Promises 1 to 17: long runs of calls, drawn from a fixed row of numbers, on a ControllableTime and on
 * a ReferenceTime; every answer must be the same, and every getter after every call.
 */
public final class CompareTest {
    private static final int[] EXTREMES = {Integer.MIN_VALUE, -1000, -8, -7, -1, 6, 7, 8, 100, Integer.MAX_VALUE};

    private final Checks checks = new Checks();
    private long seed;
    private int run;
    private int n;
    private int h;
    private ControllableTime got;
    private ReferenceTime want;
    private int accepted = 0;
    private int rejected = 0;
    private int finished = 0;

    public static void main(String[] args) {
        CompareTest test = new CompareTest();
        for (int run = 1; run <= 2500; run++) {
            test.play(run);
        }
        test.checkSpread();
        test.checks.finish();
    }

    /** Runs that never meet an accepted, a rejected or a finished network would compare nothing of weight. */
    private void checkSpread() {
        System.out.println("accepted " + accepted + ", rejected " + rejected + ", finished " + finished);
        checks.due("enough accepted, rejected and finished networks",
                accepted > 300 && rejected > 300 && finished > 300 ? 1 : 0, 1);
    }

    private int pick(int bound) {
        seed = seed * 6364136223846793005L + 1442695040888963407L;
        return (int) ((seed >>> 33) % bound);
    }

    private int between(int least, int greatest) {
        return least + pick(Math.max(1, greatest - least + 1));
    }

    private int event() {
        return pick(25) == 0 ? EXTREMES[pick(EXTREMES.length)] : pick(n);
    }

    private int number(int least, int greatest) {
        return pick(25) == 0 ? EXTREMES[pick(EXTREMES.length)] : between(least, greatest);
    }

    private void play(int number) {
        run = number;
        seed = number * 7919L;
        int events = pick(20) == 0 ? EXTREMES[pick(EXTREMES.length)] : between(2, 6);
        int horizon = pick(20) == 0 ? EXTREMES[pick(EXTREMES.length)] : between(2, 7);
        got = new ControllableTime(events, horizon);
        want = new ReferenceTime(events, horizon);
        n = Math.max(3, Math.min(6, events));
        h = Math.max(3, Math.min(7, horizon));
        int edits = between(2, 9);
        for (int k = 0; k < edits; k++) {
            edit();
        }
        if (run % 3 == 0) {
            tighten();
        }
        for (int games = between(1, 3); games > 0; games--) {
            compareVerdict();
            call("start()", got.start(), want.start());
            int calls = between(6, 22);
            for (int k = 0; k < calls; k++) {
                move();
            }
            finished += want.state() == 2 ? 1 : 0;
            call("restart()", got.restart(), want.restart());
            edit();
        }
    }

    /** Takes in requirements as long as the network stays accepted, as only a tight one leaves little that is safe. */
    private void tighten() {
        for (int k = 0; k < 8; k++) {
            int u = pick(n);
            int v = pick(n);
            int lo = between(-h, h);
            int hi = between(lo, Math.min(h, lo + 3));
            call("addRequirement(" + u + ", " + v + ", " + lo + ", " + hi + ")",
                    got.addRequirement(u, v, lo, hi), want.addRequirement(u, v, lo, hi));
            compareVerdict();
            if (want.verdict() == 0) {
                call("dropRequirement(" + u + ", " + v + ")", got.dropRequirement(u, v), want.dropRequirement(u, v));
            }
        }
    }

    private void compareVerdict() {
        int verdict = want.verdict();
        accepted += verdict;
        rejected += 1 - verdict;
        call("verdict()", got.verdict(), verdict);
    }

    private void edit() {
        int kind = pick(20);
        if (kind < 7) {
            int u = event();
            int v = event();
            int lo = number(-h, pick(2) == 0 ? h : 0);
            int hi = lo < -h || lo > h ? number(-h, h) : number(pick(8) == 0 ? -h : lo, h);
            call("addRequirement(" + u + ", " + v + ", " + lo + ", " + hi + ")",
                    got.addRequirement(u, v, lo, hi), want.addRequirement(u, v, lo, hi));
        } else if (kind < 14) {
            int a = event();
            int c = event();
            int lo = number(1, 3);
            int hi = number(pick(8) == 0 ? 1 : Math.max(1, Math.min(lo, h)), Math.max(1, Math.min(h, 4)));
            call("addContingent(" + a + ", " + c + ", " + lo + ", " + hi + ")",
                    got.addContingent(a, c, lo, hi), want.addContingent(a, c, lo, hi));
        } else if (kind < 16) {
            int e = event();
            int policy = number(0, 1);
            call("setPolicy(" + e + ", " + policy + ")", got.setPolicy(e, policy), want.setPolicy(e, policy));
        } else if (kind < 18) {
            int u = event();
            int v = event();
            call("dropRequirement(" + u + ", " + v + ")", got.dropRequirement(u, v), want.dropRequirement(u, v));
        } else {
            int c = event();
            call("dropContingent(" + c + ")", got.dropContingent(c), want.dropContingent(c));
        }
    }

    private void move() {
        int kind = pick(40);
        if (kind < 22) {
            call("step()", got.step(), want.step());
        } else if (kind < 36) {
            int c = event();
            call("reveal(" + c + ")", got.reveal(c), want.reveal(c));
        } else if (kind < 37) {
            call("start()", got.start(), want.start());
        } else if (kind < 38) {
            call("verdict()", got.verdict(), want.verdict());
        } else {
            edit();
        }
    }

    private void call(String what, int answer, int due) {
        String name = "run " + run + ": " + what;
        checks.due(name, answer, due);
        checks.due(name + ", state()", got.state(), want.state());
        checks.due(name + ", now()", got.now(), want.now());
        for (int e = -1; e <= 6; e++) {
            checks.due(name + ", timeOf(" + e + ")", got.timeOf(e), want.timeOf(e));
            checks.due(name + ", policyOf(" + e + ")", got.policyOf(e), want.policyOf(e));
            for (int k = -1; k <= 6; k++) {
                checks.due(name + ", limit(" + e + ", " + k + ")", got.limit(e, k), want.limit(e, k));
                checks.due(name + ", linkOf(" + e + ", " + k + ")", got.linkOf(e, k), want.linkOf(e, k));
            }
        }
    }
}
