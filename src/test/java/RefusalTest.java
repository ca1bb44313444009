import java.util.function.Consumer;
import java.util.function.Supplier;

/**
 * Promises 7 to 13: which exception comes for a refused call, and "A call that throws changes nothing." The
 * refused calls of promises 2 to 5 are in BoundsTest.
 */
public final class RefusalTest {
    private static final Check CHECK = new Check();
    private static final int FAR_BELOW = Integer.MIN_VALUE;
    private static final int FAR_ABOVE = Integer.MAX_VALUE;

    public static void main(String[] args) {
        for (int n = 1; n <= 5; n++) {
            solveAndLeastNeedReadyData(n);
            allElseNeedsAPlan(n);
            leastNeedsAnOrder(n);
            planNeedsAWhatAndAK(n);
            runNeedsZeroToFiveThousand(n);
            tankNeedsATank(n);
            stateNeedsAWhat(n);
        }
        everyDatumIsSeen(4);
        everyStandIsSeen();
        CHECK.end();
    }

    private static Refusals[] withAPlan(int n) {
        return new Refusals[] {
            new Refusals(CHECK, n, () -> Lines.solved(Lines.looseLine(n))),
            new Refusals(CHECK, n, () -> Lines.midway(Lines.looseLine(n))),
            new Refusals(CHECK, n, () -> Lines.midway(Lines.tightLine(n))),
        };
    }

    /** Promises 7 and 8: "IllegalStateException if the data aren't ready". */
    private static void solveAndLeastNeedReadyData(int n) {
        int order = Lines.plainOrder(n);
        Refusals slow = new Refusals(CHECK, n, () -> slowLine(n));
        Refusals roundabout = new Refusals(CHECK, n, () -> roundaboutLine(n));
        for (Refusals refusals : new Refusals[] {slow, roundabout}) {
            refusals.state("solve, not ready", HoistPlanner::solve);
            refusals.state("least, not ready", x -> x.least(order));
            refusals.state("least of no order, not ready", x -> x.least(0));
        }
        HoistPlanner x = slowLine(n);
        Check.thrownBy(x::solve);
        x.loaded(n, 100);
        CHECK.due("solve as soon as they are ready", x.solve(), 10 * n + 100);
    }

    private static HoistPlanner slowLine(int n) {
        HoistPlanner x = new HoistPlanner();
        x.line(n);
        for (int from = 0; from <= n; from++) {
            x.empty(from, n + 1, 11);
        }
        return x;
    }

    private static HoistPlanner roundaboutLine(int n) {
        HoistPlanner x = new HoistPlanner();
        x.line(n);
        x.empty(n + 1, 0, 1);
        return x;
    }

    /** Promises 9 to 13: "IllegalStateException if there is no plan"; each way to have none. */
    private static void allElseNeedsAPlan(int n) {
        needsAPlan("new", 1, HoistPlanner::new);
        needsAPlan("data without solve", n, () -> Lines.tightLine(n));
        needsAPlan("not ready", n, () -> slowLine(n));
        needsAPlan("least alone", n, () -> after(Lines.tightLine(n), x -> x.least(Lines.plainOrder(n))));
        needsAPlan("line behind solve", n, () -> after(midway(n), x -> x.line(n)));
        needsAPlan("soak behind solve", n, () -> after(midway(n), x -> x.soak(n, 0, 500)));
        needsAPlan("the same soak again", n, () -> after(midway(n), x -> x.soak(1, 61, 105)));
        needsAPlan("loaded behind solve", n, () -> after(midway(n), x -> x.loaded(n, 90)));
        needsAPlan("the same loaded again", n, () -> after(midway(n), x -> x.loaded(0, 15)));
        needsAPlan("empty behind solve", n, () -> after(midway(n), x -> x.empty(1, 0, 11)));
        needsAPlan("the same empty again", n, () -> after(midway(n), x -> x.empty(0, 1, 9)));
    }

    private static void needsAPlan(String stand, int n, Supplier<HoistPlanner> maker) {
        Refusals refusals = new Refusals(CHECK, n, maker);
        for (int what : new int[] {-1, 0, 1, 2, 3, 4, 5}) {
            refusals.state(stand + ": plan(1, " + what + ")", x -> x.plan(1, what));
        }
        for (int seconds : new int[] {-1, 0, 1, 5000, 5001}) {
            refusals.state(stand + ": run(" + seconds + ")", x -> x.run(seconds));
        }
        refusals.state(stand + ": stop(true)", x -> x.stop(true));
        refusals.state(stand + ": stop(false)", x -> x.stop(false));
        for (int i : new int[] {0, 1, n, n + 1}) {
            refusals.state(stand + ": tank(" + i + ")", x -> x.tank(i));
        }
        for (int what : new int[] {-1, 0, 1, 2, 3, 4, 5, 6, 7}) {
            refusals.state(stand + ": state(" + what + ")", x -> x.state(what));
        }
    }

    private static HoistPlanner midway(int n) {
        return Lines.midway(Lines.tightLine(n));
    }

    private static HoistPlanner after(HoistPlanner x, Consumer<HoistPlanner> call) {
        call.accept(x);
        return x;
    }

    /** Promise 8: "IllegalArgumentException if it isn't an order." OrderTest asks for every number. */
    private static void leastNeedsAnOrder(int n) {
        int first = Lines.plainOrder(n);
        int last = Lines.orders(n).get(Lines.orders(n).size() - 1);
        for (Refusals refusals : withAPlan(n)) {
            int[] wrong = {FAR_BELOW, -first, -1, 0, first - 1, last + 1, 10 * first, 100000 + first, FAR_ABOVE};
            for (int order : wrong) {
                refusals.argument("least(" + order + ") of " + n, x -> x.least(order));
            }
        }
        Refusals withoutAPlan = new Refusals(CHECK, n, () -> Lines.tightLine(n));
        withoutAPlan.argument("least(0) without a plan", x -> x.least(0));
    }

    /** Promise 9: "IllegalArgumentException if there is no such what or k." */
    private static void planNeedsAWhatAndAK(int n) {
        for (Refusals refusals : withAPlan(n)) {
            for (int what : new int[] {FAR_BELOW, -1, 5, 6, FAR_ABOVE}) {
                refusals.argument("plan(1, " + what + ")", x -> x.plan(1, what));
            }
            for (int k : new int[] {FAR_BELOW, -1, n + 1, n + 2, FAR_ABOVE}) {
                refusals.argument("plan(" + k + ", 0) of " + n, x -> x.plan(k, 0));
                refusals.argument("plan(" + k + ", 1) of " + n, x -> x.plan(k, 1));
                refusals.argument("plan(" + k + ", 2) of " + n, x -> x.plan(k, 2));
            }
            refusals.argument("plan(0, 2) of " + n, x -> x.plan(0, 2));
        }
    }

    /** Promise 10: "IllegalArgumentException if seconds are not 0 .. 5000." */
    private static void runNeedsZeroToFiveThousand(int n) {
        for (Refusals refusals : withAPlan(n)) {
            for (int seconds : new int[] {FAR_BELOW, -2, -1, 5001, 5002, FAR_ABOVE}) {
                refusals.argument("run(" + seconds + ")", x -> x.run(seconds));
            }
        }
    }

    /** Promise 12: "IllegalArgumentException if there is no such tank." */
    private static void tankNeedsATank(int n) {
        for (Refusals refusals : withAPlan(n)) {
            for (int i : new int[] {FAR_BELOW, -1, 0, n + 1, n + 2, FAR_ABOVE}) {
                refusals.argument("tank(" + i + ") of " + n, x -> x.tank(i));
            }
        }
    }

    /** Promise 13: "IllegalArgumentException for another what." */
    private static void stateNeedsAWhat(int n) {
        for (Refusals refusals : withAPlan(n)) {
            for (int what : new int[] {FAR_BELOW, -2, -1, 7, 8, FAR_ABOVE}) {
                refusals.argument("state(" + what + ")", x -> x.state(what));
            }
        }
    }

    /** The comparison of two objects has force only if each change of the data would show in the answers. */
    private static void everyDatumIsSeen(int n) {
        for (int tank = 1; tank <= n; tank++) {
            int i = tank;
            isSeen("low of tank " + i, n, x -> x.soak(i, 0, 100 + 5 * i));
            isSeen("high of tank " + i, n, x -> x.soak(i, 60 + i, 500));
            isSeen("high of tank " + i, n, x -> x.soak(i, 60 + i, 60 + i));
        }
        for (int move = 0; move <= n; move++) {
            int i = move;
            isSeen("loaded of move " + i, n, x -> x.loaded(i, 14 + 2 * i));
            isSeen("loaded of move " + i, n, x -> x.loaded(i, 100));
        }
        for (int from = 0; from <= n + 1; from++) {
            for (int to = 0; to <= n + 1; to++) {
                int x0 = from;
                int x1 = to;
                if (from != to) {
                    isSeen("empty from " + from + " to " + to, n, x -> x.empty(x0, x1, 0));
                    isSeen("empty from " + from + " to " + to, n, x -> x.empty(x0, x1, 100));
                }
            }
        }
        isSeen("the number of tanks", n, x -> x.line(n + 1));
    }

    private static void isSeen(String what, int n, Consumer<HoistPlanner> change) {
        String before = Answers.ofData(Lines.tightLine(n), n);
        String behind = Answers.ofData(after(Lines.tightLine(n), change), n);
        CHECK.due(what + " is seen", before.equals(behind) ? 0 : 1, 1);
    }

    /** The line in the midst of things must have something in each place that a refused call could spoil. */
    private static void everyStandIsSeen() {
        HoistPlanner x = Lines.midway(Lines.tightLine(4));
        CHECK.due("a carrier is on the hoist", x.state(3) > 0 ? 1 : 0, 1);
        CHECK.due("one is in tank 2", x.tank(2) > 0 ? 1 : 0, 1);
        CHECK.due("one is done", x.state(2) > 0 ? 1 : 0, 1);
        int entered = x.state(1);
        x.run(1000);
        CHECK.due("entry is stopped", x.state(1), entered);
    }
}
