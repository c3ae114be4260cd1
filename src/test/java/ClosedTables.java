import java.util.function.Consumer;

/**
 * Goes through all closed tables of limits: those from which no further limit follows. Every other table allows
 * either nothing at all or just what one of these allows, so in these tables all networks of a size are met.
 */
final class ClosedTables {
    private final int n;
    private final int h;
    private final int[][] limit;
    private final Consumer<int[][]> visitor;

    private ClosedTables(int n, int h, Consumer<int[][]> visitor) {
        this.n = n;
        this.h = h;
        this.visitor = visitor;
        limit = new int[n][n];
    }

    static void forEach(int n, int h, Consumer<int[][]> visitor) {
        new ClosedTables(n, h, visitor).fill(1, 0);
    }

    /** Tries all limits between v and u, for the pairs from (v, u) on; those of all pairs before stand. */
    private void fill(int v, int u) {
        if (v == n) {
            visitor.accept(limit);
        } else if (u == v) {
            fill(v + 1, 0);
        } else {
            for (int most = u == 0 ? 0 : -h; most <= h; most++) {
                for (int back = Math.max(-h, -most); back <= (u == 0 ? 0 : h); back++) {
                    limit[u][v] = most;
                    limit[v][u] = back;
                    if (isClosed(u, v)) {
                        fill(v, u + 1);
                    }
                }
            }
        }
    }

    private boolean isClosed(int u, int v) {
        for (int w = 0; w < u; w++) {
            if (!isClosed(u, v, w) || !isClosed(v, w, u) || !isClosed(w, u, v)) {
                return false;
            }
        }
        return true;
    }

    private boolean isClosed(int u, int v, int via) {
        return limit[u][v] <= limit[u][via] + limit[via][v] && limit[v][u] <= limit[v][via] + limit[via][u];
    }
}
