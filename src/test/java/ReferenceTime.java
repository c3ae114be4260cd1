import java.util.Arrays;
import java.util.HashMap;
import java.util.Map;

/**
 * The document once more, written down as literally as recursion allows, to compare ControllableTime with.
 * It searches the game forwards from the position asked about and shares no thought with the program.
 */
final class ReferenceTime {
    private static final int OPEN = -1;

    private final int n;
    private final int h;
    private final int[][] limit;
    private final int[][] link;
    private final int[] policy;
    private final int[] time;
    private int state = 0;
    private int now = 0;
    private final Map<Long, Boolean> known = new HashMap<>();

    ReferenceTime(int events, int horizon) {
        n = Math.max(3, Math.min(6, events));
        h = Math.max(3, Math.min(7, horizon));
        limit = new int[n][n];
        link = new int[n][];
        policy = new int[n];
        time = new int[n];
        Arrays.fill(time, OPEN);
        for (int u = 0; u < n; u++) {
            for (int v = 0; v < n; v++) {
                limit[u][v] = standard(v);
            }
        }
    }

    private int standard(int v) {
        return v == 0 ? 0 : h;
    }

    private boolean in(int e, int least) {
        return e >= least && e < n;
    }

    int addRequirement(int u, int v, int lo, int hi) {
        if (state != 0) return 101;
        if (!in(u, 0) || !in(v, 0) || u == v) return 102;
        if (!(-h <= lo && lo <= hi && hi <= h)) return 103;
        limit[u][v] = Math.min(limit[u][v], hi);
        limit[v][u] = Math.min(limit[v][u], -lo);
        return 0;
    }

    int addContingent(int a, int c, int lo, int hi) {
        if (state != 0) return 101;
        if (!in(a, 0) || !in(c, 0) || c == 0 || a == c) return 102;
        if (!(1 <= lo && lo <= hi && hi <= h)) return 103;
        if (link[c] != null) return 104;
        for (int e = a; link[e] != null; ) {
            e = link[e][0];
            if (e == c) return 104;
        }
        link[c] = new int[] {a, lo, hi};
        return 0;
    }

    int dropRequirement(int u, int v) {
        if (state != 0) return 101;
        if (!in(u, 0) || !in(v, 0) || u == v) return 102;
        limit[u][v] = standard(v);
        limit[v][u] = standard(u);
        return 0;
    }

    int dropContingent(int c) {
        if (state != 0) return 101;
        if (!in(c, 1)) return 102;
        if (link[c] == null) return 104;
        link[c] = null;
        return 0;
    }

    int setPolicy(int e, int p) {
        if (!in(e, 1)) return 102;
        if (p != 0 && p != 1) return 103;
        policy[e] = p;
        return 0;
    }

    int verdict() {
        return state != 0 || accepted() ? 1 : 0;
    }

    int start() {
        if (state != 0) return 101;
        if (!accepted()) return 105;
        state = 1;
        time[0] = 0;
        return 0;
    }

    int reveal(int c) {
        if (state != 1) return 101;
        if (!in(c, 1) || link[c] == null) return 102;
        if (time[c] != OPEN) return 104;
        if (time[link[c][0]] == OPEN) return 104;
        if (now - time[link[c][0]] < link[c][1]) return 104;
        time[c] = now;
        return 0;
    }

    int step() {
        if (state != 1) return 101;
        int[] before = time.clone();
        for (int c = 1; c < n; c++) {
            if (link[c] != null && before[c] == OPEN && before[link[c][0]] != OPEN
                    && now - before[link[c][0]] == link[c][2]) {
                time[c] = now;
            }
        }
        for (int e = 1; e < n; e++) {
            if (link[e] == null && time[e] == OPEN) {
                boolean execute = policy[e] == 0
                        ? isSafe(with(time, e, now), now, e + 1)
                        : !isSafe(time, now, e + 1);
                if (execute) time[e] = now;
            }
        }
        int answer = 0;
        boolean all = true;
        for (int e = 0; e < n; e++) {
            if (before[e] == OPEN && time[e] != OPEN) answer += 1 << e;
            all &= time[e] != OPEN;
        }
        if (all || now == h) state = 2;
        else now++;
        return answer;
    }

    int restart() {
        if (state == 0) return 101;
        state = 0;
        now = 0;
        Arrays.fill(time, OPEN);
        return 0;
    }

    int state() {
        return state;
    }

    int now() {
        return now;
    }

    int timeOf(int e) {
        if (!in(e, 0)) return 102;
        return time[e] == OPEN ? 100 : time[e];
    }

    int limit(int u, int v) {
        return !in(u, 0) || !in(v, 0) || u == v ? 102 : limit[u][v];
    }

    int linkOf(int e, int field) {
        if (!in(e, 1)) return 102;
        if (field < 0 || field > 2) return 103;
        return link[e] == null ? 100 : link[e][field];
    }

    int policyOf(int e) {
        return in(e, 1) ? policy[e] : 102;
    }

    /** The links may have been edited since the last search, so nothing found then is kept. */
    private boolean accepted() {
        known.clear();
        int[] beginning = new int[n];
        Arrays.fill(beginning, OPEN);
        beginning[0] = 0;
        return roundSafe(beginning, 0);
    }

    private static int[] with(int[] times, int e, int t) {
        int[] more = times.clone();
        more[e] = t;
        return more;
    }

    private boolean roundSafe(int[] times, int t) {
        if (t > h) return won(times);
        long key = t;
        for (int e = 1; e < n; e++) key = key * 16 + times[e] + 1;
        Boolean answer = known.get(key);
        if (answer == null) {
            answer = outcomesSafe(times, times, t, 1);
            known.put(key, answer);
        }
        return answer;
    }

    /** Tries every outcome of the events from c on; which may happen is read from the times before the round. */
    private boolean outcomesSafe(int[] before, int[] times, int t, int c) {
        if (c == n) return isSafe(times, t, 1);
        boolean running = link[c] != null && before[c] == OPEN && before[link[c][0]] != OPEN;
        int d = running ? t - before[link[c][0]] : 0;
        if (!running || d < link[c][1]) return outcomesSafe(before, times, t, c + 1);
        if (!outcomesSafe(before, with(times, c, t), t, c + 1)) return false;
        return d == link[c][2] || outcomesSafe(before, times, t, c + 1);
    }

    /** Whether the position is safe in which the events from e on still have their choice in round t. */
    boolean isSafe(int[] times, int t, int e) {
        if (e == n) return roundSafe(times, t + 1);
        if (link[e] == null && times[e] == OPEN && isSafe(with(times, e, t), t, e + 1)) return true;
        return isSafe(times, t, e + 1);
    }

    private boolean won(int[] times) {
        for (int u = 0; u < n; u++) {
            if (times[u] == OPEN) return false;
            for (int v = 0; v < n; v++) {
                if (u != v && times[v] - times[u] > limit[u][v]) return false;
            }
        }
        return true;
    }
}
