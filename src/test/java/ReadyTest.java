/** Promise 6: when the data are ready, and which number is answered if they aren't. */
public final class ReadyTest {
    private static final Check CHECK = new Check();

    public static void main(String[] args) {
        for (int n = 1; n <= 5; n++) {
            emptyWayAsLongAsLoaded(n);
            leastSlowMoveIsTold(n);
            wayBackMayBeLonger(n);
            roundaboutThatIsAsLong(n);
            noPlaceBehindTheLast(n);
        }
        leastRoundaboutIsTold();
        slowMoveIsToldFirst();
        toAskChangesNothing();
        CHECK.end();
    }

    /** All ways 10 and loaded 20, so one change makes one fault alone. */
    private static HoistPlanner evenLine(int n) {
        HoistPlanner x = new HoistPlanner();
        x.line(n);
        Lines.allEmptyWays(x, n, 10);
        for (int i = 0; i <= n; i++) {
            x.loaded(i, 20);
        }
        return x;
    }

    /** "no empty way from i to i + 1 is longer than loaded i (else 1 + ..": as long as it is ready. */
    private static void emptyWayAsLongAsLoaded(int n) {
        for (int i = 0; i <= n; i++) {
            HoistPlanner x = evenLine(n);
            x.loaded(i, 11);
            CHECK.due("loaded " + i + " longer by 1", x.ready(), 0);
            x.loaded(i, 10);
            CHECK.due("loaded " + i + " as long", x.ready(), 0);
            x.loaded(i, 9);
            CHECK.due("loaded " + i + " shorter by 1", x.ready(), 1 + i);
            x.empty(i, i + 1, 9);
            CHECK.due("both shorter", x.ready(), 0);
        }
    }

    /** ".. the least such i)", for each two of them. */
    private static void leastSlowMoveIsTold(int n) {
        for (int i = 0; i <= n; i++) {
            for (int j = i + 1; j <= n; j++) {
                HoistPlanner x = evenLine(n);
                x.loaded(j, 1);
                CHECK.due("move " + j + " alone", x.ready(), 1 + j);
                x.loaded(i, 9);
                CHECK.due("moves " + i + " and " + j, x.ready(), 1 + i);
                x.loaded(i, 10);
                CHECK.due("move " + j + " again", x.ready(), 1 + j);
            }
        }
    }

    /** Only the way from i to i + 1 is held against loaded i, no way back and none further on. */
    private static void wayBackMayBeLonger(int n) {
        for (int i = 0; i <= n; i++) {
            HoistPlanner x = evenLine(n);
            x.loaded(i, 10);
            x.empty(i + 1, i, 20);
            CHECK.due("a longer way back from " + (i + 1), x.ready(), 0);
            if (i < n) {
                x.empty(i, i + 2, 20);
                CHECK.due("a longer way on from " + i, x.ready(), 0);
            }
        }
    }

    /**
     * "no empty way from x to z is longer than the ways from x to y and from y to z together (else 100 + 49 x + 7 y
     * + z ..)", "All places 0 .. n + 1 are looked at.": each three of them, as long and longer by 1.
     */
    private static void roundaboutThatIsAsLong(int n) {
        for (int x = 0; x <= n + 1; x++) {
            for (int y = 0; y <= n + 1; y++) {
                for (int z = 0; z <= n + 1; z++) {
                    if (x != y && y != z && x != z) {
                        roundabout(n, x, y, z);
                    }
                }
            }
        }
    }

    private static void roundabout(int n, int x, int y, int z) {
        String places = "from " + x + " by " + y + " to " + z;
        HoistPlanner p = evenLine(n);
        p.empty(x, z, 20);
        CHECK.due(places + " as long", p.ready(), 0);
        p.empty(x, y, 9);
        CHECK.due(places + ", the first part shorter by 1", p.ready(), 100 + 49 * x + 7 * y + z);
        p.empty(x, y, 10);
        p.empty(y, z, 9);
        CHECK.due(places + ", the second part shorter by 1", p.ready(), 100 + 49 * x + 7 * y + z);
        p.empty(x, z, 19);
        CHECK.due(places + " as long again", p.ready(), 0);
    }

    /** The ways of places that the line doesn't have are no shorter ones. */
    private static void noPlaceBehindTheLast(int n) {
        HoistPlanner x = new HoistPlanner();
        x.line(5);
        x.line(n);
        Lines.allEmptyWays(x, n, 10);
        CHECK.due("all ways of " + n + " tanks are alike", x.ready(), 0);
    }

    /** ".. the least such number)": the first place weighs most, then the second one, then the third one. */
    private static void leastRoundaboutIsTold() {
        toldFirst(new int[] {1, 6, 5}, new int[] {2, 0, 1});
        toldFirst(new int[] {0, 6, 5}, new int[] {6, 2, 1});
        toldFirst(new int[] {3, 1, 6}, new int[] {3, 2, 0});
        toldFirst(new int[] {3, 0, 5}, new int[] {3, 6, 1});
        toldFirst(new int[] {4, 2, 0}, new int[] {4, 2, 1});
        toldFirst(new int[] {4, 2, 5}, new int[] {4, 2, 6});
        toldFirst(new int[] {0, 1, 2}, new int[] {6, 5, 4});
    }

    private static void toldFirst(int[] first, int[] second) {
        int firstNumber = 100 + 49 * first[0] + 7 * first[1] + first[2];
        int secondNumber = 100 + 49 * second[0] + 7 * second[1] + second[2];
        HoistPlanner x = evenLine(5);
        x.empty(second[0], second[2], 20);
        x.empty(second[1], second[2], 9);
        CHECK.due("one fault", x.ready(), secondNumber);
        x.empty(first[0], first[2], 20);
        x.empty(first[1], first[2], 9);
        CHECK.due("two faults", x.ready(), firstNumber);
        x.empty(first[0], first[2], 19);
        CHECK.due("the other one again", x.ready(), secondNumber);
    }

    private static void slowMoveIsToldFirst() {
        for (int i = 0; i <= 5; i++) {
            HoistPlanner x = evenLine(5);
            x.empty(0, 2, 21);
            CHECK.due("a roundabout way by 1", x.ready(), 100 + 7 + 2);
            x.loaded(i, 9);
            CHECK.due("and slow move " + i, x.ready(), 1 + i);
            x.loaded(i, 10);
            CHECK.due("the roundabout way again", x.ready(), 100 + 7 + 2);
        }
    }

    private static void toAskChangesNothing() {
        HoistPlanner x = Lines.midway(Lines.tightLine(4));
        HoistPlanner twin = Lines.midway(Lines.tightLine(4));
        CHECK.due("ready with a plan", x.ready(), 0);
        CHECK.dueText("to ask", Answers.of(x, 4), Answers.of(twin, 4));
        CHECK.due("it goes on", x.run(500), twin.run(500));
        CHECK.dueText("to ask", Answers.ofLine(x, 4), Answers.ofLine(twin, 4));
    }
}
