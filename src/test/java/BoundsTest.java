import java.util.function.Consumer;

/**
 * The bounds of the terms, promises 1 to 5: the last value that is allowed and the first one that isn't, on
 * both sides. What is allowed must have its force, what isn't must change nothing.
 */
public final class BoundsTest {
    private static final Check CHECK = new Check();
    private static final int FAR_BELOW = Integer.MIN_VALUE;
    private static final int FAR_ABOVE = Integer.MAX_VALUE;

    public static void main(String[] args) {
        lineHasOneToFiveTanks();
        newObjectHasOneTank();
        for (int n = 1; n <= 5; n++) {
            lineForgetsEachDatum(n);
            tanksAreOneToN(n);
            movesAreZeroToN(n);
            placesAreZeroToNAndOneMore(n);
            loadedIsOneToHundred(n);
            emptyIsZeroToHundred(n);
            bothPlacesAreNotTheSame(n);
            lowIsZeroToFiveHundred(n);
            lowIsNotAboveHigh(n);
        }
        for (int n = 2; n <= 5; n++) {
            highIsZeroToFiveHundred(n);
        }
        CHECK.end();
    }

    /** Calls that are to be refused while a plan is carried out, and while there is none. */
    private static Refusals[] refusals(int n) {
        return new Refusals[] {
            new Refusals(CHECK, n, () -> Lines.midway(Lines.tightLine(n))),
            new Refusals(CHECK, n, () -> Lines.looseLine(n)),
        };
    }

    /** "n is 1 .. 5"; "IllegalArgumentException if n is not 1 .. 5." */
    private static void lineHasOneToFiveTanks() {
        for (int n = 1; n <= 5; n++) {
            HoistPlanner x = new HoistPlanner();
            x.line(n);
            CHECK.due("line(" + n + ")", x.least(Lines.plainOrder(n)), 10 * (n + 1));
        }
        for (Refusals refusals : refusals(3)) {
            for (int n : new int[] {FAR_BELOW, -1, 0, 6, 7, FAR_ABOVE}) {
                refusals.argument("line(" + n + ")", x -> x.line(n));
            }
        }
    }

    /** "A line of n tanks, all data as at first; no plan.": each datum that could be left from before. */
    private static void lineForgetsEachDatum(int n) {
        for (int i = 1; i <= n; i++) {
            int tank = i;
            forgets("low of tank " + i, n, x -> x.soak(tank, 500, 500));
            forgets("high of tank " + i, n, x -> x.soak(tank, 0, 0));
        }
        for (int i = 0; i <= n; i++) {
            int move = i;
            forgets("loaded of move " + i, n, x -> x.loaded(move, 1));
            forgets("loaded of move " + i, n, x -> x.loaded(move, 100));
        }
        for (int from = 0; from <= n + 1; from++) {
            for (int to = 0; to <= n + 1; to++) {
                int start = from;
                int end = to;
                if (from != to) {
                    forgets("empty from " + from + " to " + to, n, x -> x.empty(start, end, 1));
                }
            }
        }
        forgets("the plan", n, HoistPlanner::solve);
        forgets("a longer line", n, x -> x.line(5));
        forgets("a shorter line", n, x -> x.line(1));
    }

    private static void forgets(String what, int n, Consumer<HoistPlanner> change) {
        HoistPlanner x = new HoistPlanner();
        x.line(n);
        HoistPlanner fresh = new HoistPlanner();
        fresh.line(n);
        change.accept(x);
        x.line(n);
        CHECK.dueText("line forgets " + what, Answers.of(x, n), Answers.of(fresh, n));
        CHECK.due("solve behind that", x.solve(), 10 * (n + 1));
    }

    /** "One tank, low 0 and high 500; loaded 10, empty 0; no plan." */
    private static void newObjectHasOneTank() {
        Refusals refusals = new Refusals(CHECK, 1, HoistPlanner::new);
        refusals.argument("new: soak of tank 2", x -> x.soak(2, 0, 0));
        refusals.argument("new: loaded of move 2", x -> x.loaded(2, 1));
        refusals.argument("new: empty to place 3", x -> x.empty(0, 3, 1));
        refusals.argument("new: order 12", x -> x.least(12));
        refusals.state("new: no plan", x -> x.plan(0, 3));
        refusals.state("new: no run", x -> x.run(0));
        refusals.state("new: no stop", x -> x.stop(false));
        refusals.state("new: no tank", x -> x.tank(1));
        refusals.state("new: no state", x -> x.state(0));
        HoistPlanner x = new HoistPlanner();
        CHECK.due("new: ready", x.ready(), 0);
        CHECK.due("new: loaded 10 twice, low 0, empty 0 back", x.least(1), 20);
        CHECK.due("new: each loaded 10", loadedSeconds(new HoistPlanner(), 0), 10);
        CHECK.due("new: each loaded 10", loadedSeconds(new HoistPlanner(), 1), 10);
    }

    /** An empty way may be just as long as the loaded one. */
    private static int loadedSeconds(HoistPlanner x, int move) {
        for (int seconds = 1; seconds <= 100; seconds++) {
            x.empty(move, move + 1, seconds);
            if (x.ready() == 1 + move) {
                return seconds - 1;
            }
        }
        return 100;
    }

    /** "A line has n TANKS 1 .. n"; "if there is no such tank". */
    private static void tanksAreOneToN(int n) {
        for (int tank = 1; tank <= n; tank++) {
            HoistPlanner x = new HoistPlanner();
            x.line(n);
            x.soak(tank, 7, 8);
            CHECK.due("soak of tank " + tank + " of " + n, x.least(Lines.plainOrder(n)), 10 * (n + 1) + 7);
        }
        for (Refusals refusals : refusals(n)) {
            for (int tank : new int[] {FAR_BELOW, -1, 0, n + 1, n + 2, FAR_ABOVE}) {
                refusals.argument("soak of tank " + tank + " of " + n, x -> x.soak(tank, 7, 8));
            }
        }
    }

    /** "MOVE i (0 .. n)"; "if there is no such move". */
    private static void movesAreZeroToN(int n) {
        for (int move = 0; move <= n; move++) {
            HoistPlanner x = new HoistPlanner();
            x.line(n);
            x.loaded(move, 17);
            CHECK.due("loaded of move " + move + " of " + n, x.least(Lines.plainOrder(n)), 10 * n + 17);
        }
        for (Refusals refusals : refusals(n)) {
            for (int move : new int[] {FAR_BELOW, -1, n + 1, n + 2, FAR_ABOVE}) {
                refusals.argument("loaded of move " + move + " of " + n, x -> x.loaded(move, 17));
            }
        }
    }

    /** "a loading station 0 and an unloading station n + 1"; "if there are no such places". */
    private static void placesAreZeroToNAndOneMore(int n) {
        for (int from = 0; from <= n + 1; from++) {
            for (int to = 0; to <= n + 1; to++) {
                if (from != to) {
                    HoistPlanner x = new HoistPlanner();
                    x.line(n);
                    x.empty(from, to, 1);
                    CHECK.due("empty from " + from + " to " + to + " of " + n, x.ready(), shorterWay(from, to));
                }
            }
        }
        for (Refusals refusals : refusals(n)) {
            for (int place : new int[] {FAR_BELOW, -1, n + 2, n + 3, FAR_ABOVE}) {
                refusals.argument("empty from " + place + " of " + n, x -> x.empty(place, 1, 5));
                refusals.argument("empty to " + place + " of " + n, x -> x.empty(1, place, 5));
            }
        }
    }

    /** All other ways take no time, so the least third place is the one that is told. */
    private static int shorterWay(int from, int to) {
        int by = from != 0 && to != 0 ? 0 : from != 1 && to != 1 ? 1 : 2;
        return 100 + 49 * from + 7 * by + to;
    }

    /** "in LOADED i seconds, 1 .. 100"; "or they are not 1 .. 100". */
    private static void loadedIsOneToHundred(int n) {
        for (int move = 0; move <= n; move++) {
            HoistPlanner x = new HoistPlanner();
            x.line(n);
            x.loaded(move, 1);
            CHECK.due("loaded 1 of move " + move, x.least(Lines.plainOrder(n)), 10 * n + 1);
            x.loaded(move, 100);
            CHECK.due("loaded 100 of move " + move, x.least(Lines.plainOrder(n)), 10 * n + 100);
        }
        for (Refusals refusals : refusals(n)) {
            for (int seconds : new int[] {FAR_BELOW, -1, 0, 101, 102, FAR_ABOVE}) {
                refusals.argument("loaded " + seconds + " of move 0", x -> x.loaded(0, seconds));
                refusals.argument("loaded " + seconds + " of move " + n, x -> x.loaded(n, seconds));
            }
        }
    }

    /** "EMPTY from place x to y in 0 .. 100 seconds"; "or seconds are not 0 .. 100". */
    private static void emptyIsZeroToHundred(int n) {
        HoistPlanner x = new HoistPlanner();
        x.line(n);
        Lines.allEmptyWays(x, n, 100);
        x.loaded(0, 100);
        for (int i = 0; i <= n; i++) {
            CHECK.due("empty 100 from " + i, x.ready(), i == 0 ? 2 : 1 + i);
            x.loaded(i, 100);
            CHECK.due("empty 100 is as long as loaded 100", x.ready(), i == n ? 0 : 2 + i);
        }
        CHECK.due("empty 100 back to 0", x.least(Lines.plainOrder(n)), 100 * (n + 2));
        Lines.allEmptyWays(x, n, 0);
        CHECK.due("empty 0", x.ready(), 0);
        CHECK.due("empty 0 back to 0", x.least(Lines.plainOrder(n)), 100 * (n + 1));
        for (Refusals refusals : refusals(n)) {
            for (int seconds : new int[] {FAR_BELOW, -2, -1, 101, 102, FAR_ABOVE}) {
                refusals.argument("empty " + seconds + " from 0", y -> y.empty(0, n + 1, seconds));
                refusals.argument("empty " + seconds + " to 0", y -> y.empty(n + 1, 0, seconds));
            }
        }
    }

    /** "(0 from a place to itself)"; "both are the same". */
    private static void bothPlacesAreNotTheSame(int n) {
        for (Refusals refusals : refusals(n)) {
            for (int place = 0; place <= n + 1; place++) {
                int same = place;
                refusals.argument("empty 0 from " + same + " to itself", x -> x.empty(same, same, 0));
                refusals.argument("empty 50 from " + same + " to itself", x -> x.empty(same, same, 50));
            }
        }
    }

    /** "SOAK between LOW i and HIGH i seconds, 0 .. 500"; "low and high are not 0 .. 500". */
    private static void lowIsZeroToFiveHundred(int n) {
        for (int tank = 1; tank <= n; tank++) {
            HoistPlanner x = new HoistPlanner();
            x.line(n);
            for (int low : new int[] {500, 499, 1, 0}) {
                x.soak(tank, low, 500);
                CHECK.due("low " + low + " of tank " + tank, x.least(Lines.plainOrder(n)), 10 * (n + 1) + low);
            }
        }
        for (Refusals refusals : refusals(n)) {
            for (int low : new int[] {FAR_BELOW, -2, -1}) {
                refusals.argument("low " + low, x -> x.soak(1, low, 500));
                refusals.argument("low and high " + low, x -> x.soak(n, low, low));
                refusals.argument("low " + low + " with high 0", x -> x.soak(n, low, 0));
            }
            for (int high : new int[] {501, 502, FAR_ABOVE}) {
                refusals.argument("high " + high, x -> x.soak(1, 0, high));
                refusals.argument("low and high " + high, x -> x.soak(n, high, high));
                refusals.argument("high " + high + " with low 500", x -> x.soak(n, 500, high));
            }
        }
    }

    /** "low not above high": they may be the same. */
    private static void lowIsNotAboveHigh(int n) {
        for (int same : new int[] {0, 1, 250, 499, 500}) {
            HoistPlanner x = new HoistPlanner();
            x.line(n);
            x.soak(n, same, same);
            CHECK.due("low and high " + same, x.least(Lines.plainOrder(n)), 10 * (n + 1) + same);
        }
        for (Refusals refusals : refusals(n)) {
            for (int high : new int[] {0, 1, 250, 499}) {
                refusals.argument("low above high " + high, x -> x.soak(n, high + 1, high));
            }
            refusals.argument("low 500, high 0", x -> x.soak(1, 500, 0));
        }
    }

    /** In the last order a tank is emptied just ahead of being filled: its carrier waits for all other moves. */
    private static void highIsZeroToFiveHundred(int n) {
        HoistPlanner x = new HoistPlanner();
        x.line(n);
        int backwards = Lines.orders(n).get(Lines.orders(n).size() - 1);
        int wait = 10 * (n - 1);
        for (int tank = 1; tank <= n; tank++) {
            x.soak(tank, 0, wait);
            CHECK.due("high " + wait + " of tank " + tank, x.least(backwards), 10 * (n + 1));
            x.soak(tank, 0, wait - 1);
            CHECK.due("high " + (wait - 1) + " of tank " + tank, x.least(backwards), HoistPlanner.NONE);
            x.soak(tank, 0, 0);
            CHECK.due("high 0 of tank " + tank, x.least(backwards), HoistPlanner.NONE);
            x.soak(tank, 0, 500);
            CHECK.due("high 500 of tank " + tank, x.least(backwards), 10 * (n + 1));
        }
    }
}
