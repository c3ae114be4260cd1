import java.util.Arrays;
import java.util.HashSet;
import java.util.Set;

/**
 * 'The game' and promises 7 to 10, for every network of a size: the verdict, and in accepted networks the answer of
 * each step after all that can be revealed and with all policies, in every position that safe choices lead to.
 *
 * All closed tables of limits are gone through, with all contingent links whose durations are what the table
 * allows: limits that ask less of a contingent link say nothing, and limits that ask more are never accepted.
 */
public final class EveryNetworkTest {
    private static final int OPEN = -1;
    private static final Checks CHECKS = new Checks();

    private final int n;
    private final int h;
    private final int[] activation;
    private final int[] reveals;
    private final int[] lazies;
    private final Set<Long> seen = new HashSet<>();
    private int[][] limit;
    private ControllableTime got;
    private ReferenceTime want;
    private int networks = 0;
    private int accepted = 0;
    private int steps = 0;

    private EveryNetworkTest(int n, int h) {
        this.n = n;
        this.h = h;
        activation = new int[n];
        reveals = new int[h + 1];
        lazies = new int[h + 1];
        Arrays.fill(activation, OPEN);
    }

    public static void main(String[] args) {
        for (int h = 3; h <= 7; h++) {
            new EveryNetworkTest(3, h).run();
        }
        new EveryNetworkTest(4, 3).run();
        CHECKS.finish();
    }

    private void run() {
        ClosedTables.forEach(n, h, table -> {
            limit = table;
            chooseLinks(1);
        });
        System.out.println(n + " events, horizon " + h + ": " + networks + " networks, " + accepted + " accepted, "
                + steps + " steps");
        CHECKS.due("both verdicts are met", accepted > 0 && accepted < networks ? 1 : 0, 1);
    }

    /** A circle of links cannot come up: its events would have to come before themselves. */
    private void chooseLinks(int c) {
        if (c == n) {
            lookAt();
            return;
        }
        chooseLinks(c + 1);
        for (int a = 0; a < n; a++) {
            if (a != c && limit[c][a] <= -1) {
                activation[c] = a;
                chooseLinks(c + 1);
            }
        }
        activation[c] = OPEN;
    }

    private void lookAt() {
        networks++;
        got = new ControllableTime(n, h);
        want = new ReferenceTime(n, h);
        for (int u = 0; u < n; u++) {
            for (int v = u + 1; v < n; v++) {
                got.addRequirement(u, v, -limit[v][u], limit[u][v]);
                want.addRequirement(u, v, -limit[v][u], limit[u][v]);
            }
        }
        for (int c = 1; c < n; c++) {
            if (activation[c] != OPEN) {
                got.addContingent(activation[c], c, -limit[c][activation[c]], limit[activation[c]][c]);
                want.addContingent(activation[c], c, -limit[c][activation[c]], limit[activation[c]][c]);
            }
        }
        int verdict = want.verdict();
        same("verdict()", got.verdict(), verdict);
        same("start()", got.start(), verdict == 1 ? ControllableTime.OK : ControllableTime.REJECTED);
        if (verdict == 1) {
            accepted++;
            playAll();
        }
    }

    private void playAll() {
        int[] times = new int[n];
        Arrays.fill(times, OPEN);
        times[0] = 0;
        seen.clear();
        playFrom(0, times);
    }

    private void playFrom(int t, int[] times) {
        long key = t;
        for (int e = 1; e < n; e++) {
            key = key * 16 + times[e] + 1;
        }
        if (!seen.add(key)) {
            return;
        }
        int possible = 0;
        int open = 0;
        for (int e = 1; e < n; e++) {
            possible |= activation[e] != OPEN && elapsed(e, t, times) >= shortest(e) ? 1 << e : 0;
            open |= activation[e] == OPEN && times[e] == OPEN ? 1 << e : 0;
        }
        for (int reveal = 0; reveal <= possible; reveal++) {
            for (int lazy = 0; lazy <= open; lazy++) {
                if ((reveal & ~possible) == 0 && (lazy & ~open) == 0) {
                    reveals[t] = reveal;
                    lazies[t] = lazy;
                    playRound(t, times);
                }
            }
        }
    }

    private int shortest(int c) {
        return -limit[c][activation[c]];
    }

    /** How long c has been running, or OPEN if it is not running. */
    private int elapsed(int c, int t, int[] times) {
        int began = times[activation[c]];
        return times[c] != OPEN || began == OPEN ? OPEN : t - began;
    }

    private void playRound(int t, int[] before) {
        int[] times = before.clone();
        for (int c = 1; c < n; c++) {
            times[c] = (reveals[t] & 1 << c) != 0 ? t : times[c];
        }
        int answer = endRound(t, times);
        boolean isOver = t == h || haveAll(times);
        steps++;
        same("step()", replay(t), answer);
        same("state()", got.state(), isOver ? ControllableTime.DONE : ControllableTime.RUN);
        same("now()", got.now(), isOver ? t : t + 1);
        for (int e = 0; e < n; e++) {
            same("timeOf(" + e + ")", got.timeOf(e), times[e] == OPEN ? ControllableTime.NONE : times[e]);
        }
        if (!isOver) {
            playFrom(t + 1, times);
        }
    }

    private static boolean haveAll(int[] times) {
        for (int time : times) {
            if (time == OPEN) {
                return false;
            }
        }
        return true;
    }

    /** Plays a game up to the step that ends round t, and gives the answer of that step. */
    private int replay(int t) {
        got.restart();
        got.start();
        int answer = 0;
        for (int past = 0; past <= t; past++) {
            for (int e = 1; e < n; e++) {
                got.setPolicy(e, (lazies[past] & 1 << e) != 0 ? ControllableTime.LAZY : ControllableTime.EAGER);
                if ((reveals[past] & 1 << e) != 0) {
                    got.reveal(e);
                }
            }
            answer = got.step();
        }
        return answer;
    }

    /** Gives the times that are due in the step that ends round t, and answers their events. */
    private int endRound(int t, int[] times) {
        int answer = 0;
        for (int c = 1; c < n; c++) {
            if (activation[c] != OPEN && elapsed(c, t, times) == limit[activation[c]][c]) {
                times[c] = t;
                answer |= 1 << c;
            }
        }
        for (int e = 1; e < n; e++) {
            if (activation[e] == OPEN && times[e] == OPEN) {
                boolean isLazy = (lazies[t] & 1 << e) != 0;
                boolean isDeclined = isLazy && want.isSafe(times, t, e + 1);
                times[e] = t;
                isDeclined |= !isLazy && !want.isSafe(times, t, e + 1);
                answer |= isDeclined ? 0 : 1 << e;
                times[e] = isDeclined ? OPEN : t;
            }
        }
        return answer;
    }

    /** The network is told only where an answer is wrong, as telling it takes longer than all the rest. */
    private void same(String call, int answer, int due) {
        if (answer != due) {
            CHECKS.due(call + " with limits " + Arrays.deepToString(limit) + ", activations "
                    + Arrays.toString(activation) + ", revealed " + Arrays.toString(reveals) + ", lazy "
                    + Arrays.toString(lazies), answer, due);
        }
    }
}
