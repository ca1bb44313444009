/** Lines that several tests use. */
final class Lines {
    private Lines() {
    }

    /**
     * Two tanks: soaks 30 .. 40 and 20 .. 25, loaded 12, 9, 11, a step of the empty hoist 4 seconds and 1
     * more. Only order 12 is possible: moves at 0, 42, 71, T 95.
     */
    static HoistPlanner twoTanks() {
        HoistPlanner x = new HoistPlanner();
        x.line(2);
        x.soak(1, 30, 40);
        x.soak(2, 20, 25);
        x.loaded(0, 12);
        x.loaded(1, 9);
        x.loaded(2, 11);
        for (int from = 0; from <= 3; from++) {
            for (int to = 0; to <= 3; to++) {
                if (from != to) {
                    x.empty(from, to, 1 + 4 * Math.abs(from - to));
                }
            }
        }
        return x;
    }

    /**
     * Three tanks: soaks 100, 0 and 50 .. 60, all else as at first. T is 130 with order 312: moves at 0,
     * 110, 120, 50; a carrier takes 190 seconds.
     */
    static HoistPlanner threeTanks() {
        HoistPlanner x = new HoistPlanner();
        x.line(3);
        x.soak(1, 100, 100);
        x.soak(2, 0, 0);
        x.soak(3, 50, 60);
        return x;
    }

    /** Makes the hoist go from each place to each other one in so many seconds. */
    static void allEmptyWays(HoistPlanner x, int tanks, int seconds) {
        for (int from = 0; from <= tanks + 1; from++) {
            for (int to = 0; to <= tanks + 1; to++) {
                if (from != to) {
                    x.empty(from, to, seconds);
                }
            }
        }
    }

    static HoistPlanner solved(HoistPlanner x) {
        x.solve();
        return x;
    }
}
