import java.util.Arrays;

/** The document's terms at their plainest: every order with every T, all ways between all moves. */
final class Reference {
    static final int NONE = -1;
    private static final int FAR_BELOW = -1_000_000;

    final int n;
    final int[] low;
    final int[] high;
    final int[] loaded;
    final int[][] empty;
    int cycle = NONE;
    int order = NONE;
    int[] times;

    private Reference(int n) {
        this.n = n;
        low = new int[n + 1];
        high = new int[n + 1];
        loaded = new int[n + 1];
        empty = new int[n + 2][n + 2];
        Arrays.fill(high, 500);
        Arrays.fill(loaded, 10);
    }

    static Reference of(int n) {
        return new Reference(n);
    }

    Reference allLoaded(int seconds) {
        Arrays.fill(loaded, seconds);
        return this;
    }

    Reference allEmpty(int seconds) {
        for (int x = 0; x <= n + 1; x++) {
            for (int y = 0; y <= n + 1; y++) {
                empty[x][y] = x == y ? 0 : seconds;
            }
        }
        return this;
    }

    Reference allSoaks(int least, int most) {
        Arrays.fill(low, least);
        Arrays.fill(high, most);
        return this;
    }

    /** A new planner with these data. */
    HoistPlanner planner() {
        HoistPlanner x = new HoistPlanner();
        x.line(n);
        for (int i = 0; i <= n; i++) {
            x.loaded(i, loaded[i]);
        }
        for (int i = 1; i <= n; i++) {
            x.soak(i, low[i], high[i]);
        }
        for (int from = 0; from <= n + 1; from++) {
            for (int to = 0; to <= n + 1; to++) {
                if (from != to) {
                    x.empty(from, to, empty[from][to]);
                }
            }
        }
        return x;
    }

    int ready() {
        for (int i = 0; i <= n; i++) {
            if (empty[i][i + 1] > loaded[i]) {
                return 1 + i;
            }
        }
        int least = Integer.MAX_VALUE;
        for (int z = n + 1; z >= 0; z--) {
            for (int y = n + 1; y >= 0; y--) {
                for (int x = n + 1; x >= 0; x--) {
                    if (empty[x][z] > empty[x][y] + empty[y][z]) {
                        least = Math.min(least, 100 + 49 * x + 7 * y + z);
                    }
                }
            }
        }
        return least == Integer.MAX_VALUE ? 0 : least;
    }

    boolean isOrder(int number) {
        String digits = Integer.toString(number);
        if (digits.length() != n) {
            return false;
        }
        for (int move = 1; move <= n; move++) {
            if (digits.indexOf((char) ('0' + move)) < 0) {
                return false;
            }
        }
        return true;
    }

    int solve() {
        cycle = NONE;
        int most = (int) Math.pow(10, n);
        for (int number = most / 10; number < most; number++) {
            if (!isOrder(number)) {
                continue;
            }
            int found = least(number);
            if (found != NONE && (cycle == NONE || found < cycle)) {
                cycle = found;
                order = number;
                times = timesOf(number, found);
            }
        }
        return cycle;
    }

    int least(int number) {
        for (int t = 1; t <= 2000; t++) {
            if (timesOf(number, t) != null) {
                return t;
            }
        }
        return NONE;
    }

    /** The least times of an order with a T; null if there are none. */
    int[] timesOf(int number, int t) {
        int[][] way = rules(number, t);
        for (int k = 0; k <= n; k++) {
            for (int i = 0; i <= n; i++) {
                for (int j = 0; j <= n; j++) {
                    way[i][j] = Math.max(way[i][j], way[i][k] + way[k][j]);
                }
            }
            for (int i = 0; i <= n; i++) {
                if (way[i][i] > 0) {
                    return null;
                }
            }
        }
        return way[0];
    }

    private int[][] rules(int number, int t) {
        int[][] way = new int[n + 1][n + 1];
        for (int i = 0; i <= n; i++) {
            Arrays.fill(way[i], FAR_BELOW);
            way[i][i] = 0;
        }
        String moves = "0" + number;
        for (int k = 0; k <= n; k++) {
            int first = moves.charAt(k) - '0';
            int second = k == n ? 0 : moves.charAt(k + 1) - '0';
            raise(way, first, second, loaded[first] + empty[first + 1][second] - (k == n ? t : 0));
        }
        for (int i = 1; i <= n; i++) {
            int more = moves.indexOf('0' + i) < moves.indexOf('0' + i - 1) ? t : 0;
            raise(way, i - 1, i, loaded[i - 1] + low[i] - more);
            raise(way, i, i - 1, more - loaded[i - 1] - high[i]);
        }
        return way;
    }

    private static void raise(int[][] way, int from, int to, int least) {
        way[from][to] = Math.max(way[from][to], least);
    }

    int soak(int tank) {
        int soak = times[tank] - times[tank - 1] - loaded[tank - 1];
        String moves = "0" + order;
        return moves.indexOf('0' + tank) < moves.indexOf('0' + tank - 1) ? soak + cycle : soak;
    }

    /** How long behind its entry's begin a carrier's move begins; for n + 1 how long it takes in all. */
    int begin(int move) {
        int begin = 0;
        for (int i = 0; i < move; i++) {
            begin += loaded[i] + (i < n ? soak(i + 1) : 0);
        }
        return begin;
    }
}
