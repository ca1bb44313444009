/**
 * "An object is used for at most 512 calls after it has been made": the 512th one is still answered, however dear
 * the calls are.
 */
public final class CallsTest {
    private static final Check CHECK = new Check();
    private static final int CALLS = 512;
    /** With four tanks a piece takes 30 calls. */
    private static final int PIECES = 14;

    public static void main(String[] args) {
        longestRuns();
        longestRunsOfTheLongestCycle();
        solvingEachTime();
        leastEachTime();
        dataEachTime();
        refusedEachTime();
        objectsAreApart();
        CHECK.end();
    }

    /** A carrier each 2 seconds: the greatest numbers that there can be. */
    private static void longestRuns() {
        HoistPlanner x = new HoistPlanner();
        x.loaded(0, 1);
        x.loaded(1, 1);
        x.solve();
        int runs = CALLS - 3 - 4;
        for (int k = 0; k < runs; k++) {
            CHECK.due("run(5000)", x.run(5000), 5000);
        }
        int seconds = 5000 * runs;
        CHECK.due("the second", x.state(0), seconds);
        CHECK.due("entered", x.state(1), seconds / 2);
        CHECK.due("done", x.state(2), seconds / 2 - 1);
        CHECK.due("the 512th call: how long it took", x.state(6), 2);
    }

    /** Each carrier takes 1900 seconds, so all that entered are done with a cycle's end. */
    private static void longestRunsOfTheLongestCycle() {
        HoistPlanner x = Reference.of(5).allLoaded(100).allEmpty(100).allSoaks(260, 260).planner();
        int callsForTheData = 1 + 6 + 5 + 42;
        CHECK.due("T", x.solve(), 2000);
        int runs = CALLS - callsForTheData - 1 - 3;
        for (int k = 0; k < runs; k++) {
            x.run(5000);
        }
        CHECK.due("the second", x.state(0), 5000 * runs);
        CHECK.due("entered", x.state(1), (5000 * runs + 1999) / 2000);
        CHECK.due("the 512th call: done", x.state(2), (5000 * runs + 99) / 2000);
    }

    private static void solvingEachTime() {
        HoistPlanner x = new HoistPlanner();
        x.line(5);
        for (int k = 1; k < CALLS - 1; k++) {
            CHECK.due("solve", x.solve(), 60);
        }
        CHECK.due("the 512th call: the order", x.plan(0, 4), 12345);
    }

    private static void leastEachTime() {
        HoistPlanner x = new HoistPlanner();
        x.line(5);
        for (int k = 1; k < CALLS; k++) {
            CHECK.due("least", x.least(k % 2 == 0 ? 12345 : 54321), 60);
        }
    }

    private static void dataEachTime() {
        HoistPlanner x = new HoistPlanner();
        for (int k = 0; k < (CALLS - 2) / 5; k++) {
            x.line(1 + k % 5);
            x.soak(1, k, 500);
            x.loaded(0, 1 + k % 100);
            x.empty(1, 0, k % 2);
            CHECK.due("ready", x.ready(), k % 2 == 0 ? 0 : 100 + 49 + 14);
        }
        x.line(2);
        CHECK.due("the 512th call: solve", x.solve(), 30);
    }

    private static void refusedEachTime() {
        HoistPlanner x = new HoistPlanner();
        x.solve();
        for (int k = 1; k < CALLS - 1; k++) {
            CHECK.throwsArgument("run(5001)", () -> x.run(5001));
        }
        CHECK.due("the 512th call", x.run(1), 1);
    }

    /** What is called on one object is not seen in another one: two used by turns answer as each did alone. */
    private static void objectsAreApart() {
        String one = runInPieces(4, Lines.solved(Lines.tightLine(4)), 67);
        String other = runInPieces(2, Lines.solved(Lines.twoTanks()), 29);
        HoistPlanner x = Lines.tightLine(4);
        HoistPlanner y = Lines.twoTanks();
        x.solve();
        y.solve();
        StringBuilder ofX = new StringBuilder();
        StringBuilder ofY = new StringBuilder();
        for (int k = 0; k < PIECES; k++) {
            ofX.append(runPiece(4, x, 67, k));
            ofY.append(runPiece(2, y, 29, k));
        }
        CHECK.dueText("the one", ofX.toString(), one);
        CHECK.dueText("the other", ofY.toString(), other);
    }

    private static String runInPieces(int n, HoistPlanner x, int seconds) {
        StringBuilder text = new StringBuilder();
        for (int k = 0; k < PIECES; k++) {
            text.append(runPiece(n, x, seconds, k));
        }
        return text.toString();
    }

    private static String runPiece(int n, HoistPlanner x, int seconds, int k) {
        if (k == 2 * n) {
            // Not in the same piece for both, or a stop of the one could pass for that of the other.
            x.stop(true);
        }
        return x.run(seconds) + ": " + Answers.ofPlan(x, n) + Answers.ofLine(x, n);
    }
}
