import java.util.ArrayList;
import java.util.List;

/** Lines that several tests use. */
final class Lines {
    private static final int[] POWERS_OF_TEN = {1, 10, 100, 1000, 10000};

    private Lines() {
    }

    /**
     * Two tanks: soaks 30 .. 40 and 20 .. 25, loaded 12, 9, 11, a step of the empty hoist 4 seconds and 1
     * more. Only order 12 is possible: moves at 0, 42, 71, T 95.
     */
    static HoistPlanner twoTanks() {
        HoistPlanner x = new HoistPlanner();
        x.line(2);
        x.soak(1, 30, 40);
        x.soak(2, 20, 25);
        x.loaded(0, 12);
        x.loaded(1, 9);
        x.loaded(2, 11);
        for (int from = 0; from <= 3; from++) {
            for (int to = 0; to <= 3; to++) {
                if (from != to) {
                    x.empty(from, to, 1 + 4 * Math.abs(from - to));
                }
            }
        }
        return x;
    }

    /**
     * Three tanks: soaks 100, 0 and 50 .. 60, all else as at first. T is 130 with order 312: moves at 0,
     * 110, 120, 50; a carrier takes 190 seconds.
     */
    static HoistPlanner threeTanks() {
        HoistPlanner x = new HoistPlanner();
        x.line(3);
        x.soak(1, 100, 100);
        x.soak(2, 0, 0);
        x.soak(3, 50, 60);
        return x;
    }

    /** Makes the hoist go from each place to each other one in so many seconds. */
    static void allEmptyWays(HoistPlanner x, int tanks, int seconds) {
        for (int from = 0; from <= tanks + 1; from++) {
            for (int to = 0; to <= tanks + 1; to++) {
                if (from != to) {
                    x.empty(from, to, seconds);
                }
            }
        }
    }

    /** The order 1 2 .. n as a number: each carrier is brought to the end before the next one enters. */
    static int plainOrder(int n) {
        return 12345 / POWERS_OF_TEN[5 - n];
    }

    /** All orders of n tanks as numbers, the least number first. */
    static List<Integer> orders(int n) {
        List<Integer> orders = new ArrayList<>();
        addOrders(orders, n, 0);
        return orders;
    }

    private static void addOrders(List<Integer> orders, int n, int begun) {
        if (begun >= POWERS_OF_TEN[n - 1]) {
            orders.add(begun);
            return;
        }
        for (int move = 1; move <= n; move++) {
            if (Integer.toString(begun).indexOf('0' + move) < 0) {
                addOrders(orders, n, 10 * begun + move);
            }
        }
    }

    /** Ways and loaded seconds that all differ, soaks that hinder no order much. */
    static HoistPlanner looseLine(int n) {
        HoistPlanner x = new HoistPlanner();
        x.line(n);
        for (int i = 0; i <= n; i++) {
            x.loaded(i, 15 + 2 * i);
        }
        for (int i = 1; i <= n; i++) {
            x.soak(i, 3 * i, 400 + i);
        }
        differentWays(x, n);
        return x;
    }

    /** As the loose line, but with soaks that rule some orders out. */
    static HoistPlanner tightLine(int n) {
        HoistPlanner x = looseLine(n);
        for (int i = 1; i <= n; i++) {
            x.soak(i, 60 + i, 100 + 5 * i);
        }
        return x;
    }

    /** No way is shorter by another place, and a way forth is 1 shorter than back. */
    private static void differentWays(HoistPlanner x, int n) {
        for (int from = 0; from <= n + 1; from++) {
            for (int to = 0; to <= n + 1; to++) {
                if (from != to) {
                    x.empty(from, to, 6 + 3 * Math.abs(from - to) + (from > to ? 1 : 0));
                }
            }
        }
    }

    /** A solved line in its fourth cycle: a move goes on, and entry is stopped. */
    static HoistPlanner midway(HoistPlanner x) {
        int cycle = x.solve();
        x.run(3 * cycle + 3);
        x.stop(true);
        return x;
    }

    static HoistPlanner solved(HoistPlanner x) {
        x.solve();
        return x;
    }
}
