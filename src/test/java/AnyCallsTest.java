import java.util.Random;
import java.util.function.ToIntFunction;

/**
 * All promises at once: 512 calls of any kind on an object, right and wrong ones, each with the answer or the
 * exception of the document written down as a program. The seed is fixed, so all runs are the same.
 */
public final class AnyCallsTest {
    private static final Check CHECK = new Check();
    private static final Random RANDOM = new Random(512);
    private static final int CALLS = 512;
    /** How many objects are used with so many tanks at most; to solve many tanks plainly takes long. */
    private static final int[] OBJECTS = {0, 100, 150, 150, 40, 8};
    private static final int[] FAR = {Integer.MIN_VALUE, -2, 7, 12, 101, 501, 5001, Integer.MAX_VALUE};

    private static HoistPlanner planner;
    private static PlainPlanner plain;
    private static int calls;
    private static int mostTanks;
    private static int tanks;
    private static final int[] answered = new int[3];

    public static void main(String[] args) {
        for (mostTanks = 1; mostTanks <= 5; mostTanks++) {
            for (int k = 0; k < OBJECTS[mostTanks]; k++) {
                useAnObject();
            }
        }
        boolean wereAll = answered[0] > 100_000 && answered[1] > 10_000 && answered[2] > 10_000;
        CHECK.due("answers and exceptions of both kinds were met", wereAll ? 1 : 0, 1);
        CHECK.end();
    }

    private static void useAnObject() {
        planner = new HoistPlanner();
        plain = new PlainPlanner();
        calls = 0;
        tanks = 1;
        while (calls < CALLS) {
            int kind = between(0, 9);
            if (kind == 0) {
                anyLine();
            } else if (kind == 1) {
                anyDatum();
            } else if (kind <= 3) {
                solve();
            } else {
                anyUse();
            }
        }
    }

    private static int between(int least, int most) {
        return least + RANDOM.nextInt(most - least + 1);
    }

    /** Mostly a right value, at times one just outside or far off. */
    private static int mostly(int least, int most) {
        int kind = between(0, 40);
        if (kind == 0) {
            return FAR[between(0, FAR.length - 1)];
        }
        return kind == 1 ? least - 1 : kind == 2 ? most + 1 : between(least, most);
    }

    /** A new line with data that are ready, if no wrong value comes among them. */
    private static void anyLine() {
        int n = mostly(1, mostTanks);
        if (n > mostTanks && n <= 5) {
            return;
        }
        both("line(" + n + ")", x -> answer(() -> x.line(n)), y -> answer(() -> y.line(n)));
        tanks = n >= 1 && n <= 5 ? n : tanks;
        int way = between(0, 2) == 0 ? 0 : between(1, 30);
        for (int from = 0; from <= tanks + 1 && way > 0; from++) {
            for (int to = 0; to <= tanks + 1; to++) {
                if (from != to) {
                    empty(from, to, way);
                }
            }
        }
        for (int move = 0; move <= tanks; move++) {
            loaded(move, between(Math.max(1, way), Math.max(1, way) + 20));
        }
        int longest = between(1, 150);
        for (int tank = 1; tank <= tanks; tank++) {
            int low = between(0, longest);
            soak(tank, low, low + between(0, longest));
        }
    }

    private static void anyDatum() {
        int kind = between(0, 2);
        if (kind == 0) {
            int low = mostly(0, 150);
            soak(mostly(1, tanks), low, between(0, 5) == 0 ? mostly(0, 500) : low + between(0, 200));
        } else if (kind == 1) {
            loaded(mostly(0, tanks), between(0, 3) == 0 ? mostly(1, 100) : mostly(20, 50));
        } else {
            empty(mostly(0, tanks + 1), mostly(0, tanks + 1), mostly(0, between(0, 3) == 0 ? 100 : 20));
        }
    }

    private static void soak(int tank, int low, int high) {
        both("soak(" + tank + ", " + low + ", " + high + ")",
            x -> answer(() -> x.soak(tank, low, high)), y -> answer(() -> y.soak(tank, low, high)));
    }

    private static void loaded(int move, int seconds) {
        both("loaded(" + move + ", " + seconds + ")",
            x -> answer(() -> x.loaded(move, seconds)), y -> answer(() -> y.loaded(move, seconds)));
    }

    private static void empty(int from, int to, int seconds) {
        both("empty(" + from + ", " + to + ", " + seconds + ")",
            x -> answer(() -> x.empty(from, to, seconds)), y -> answer(() -> y.empty(from, to, seconds)));
    }

    private static void solve() {
        both("ready()", HoistPlanner::ready, PlainPlanner::ready);
        both("solve()", HoistPlanner::solve, PlainPlanner::solve);
    }

    private static void anyUse() {
        int times = between(1, 8);
        for (int k = 0; k < times; k++) {
            switch (between(0, 8)) {
                case 0:
                    least();
                    break;
                case 1:
                    int what = mostly(0, 4);
                    int of = mostly(0, tanks);
                    both("plan(" + of + ", " + what + ")", x -> x.plan(of, what), y -> y.plan(of, what));
                    break;
                case 2:
                    boolean stopped = RANDOM.nextBoolean();
                    both("stop(" + stopped + ")",
                        x -> answer(() -> x.stop(stopped)), y -> answer(() -> y.stop(stopped)));
                    break;
                case 3:
                case 4:
                    int seconds = between(0, 9) == 0 ? mostly(0, 5000) : mostly(0, 150);
                    both("run(" + seconds + ")", x -> x.run(seconds), y -> y.run(seconds));
                    break;
                case 5:
                    int tank = mostly(1, tanks);
                    both("tank(" + tank + ")", x -> x.tank(tank), y -> y.tank(tank));
                    break;
                case 6:
                    both("ready()", HoistPlanner::ready, PlainPlanner::ready);
                    break;
                default:
                    int asked = mostly(0, 6);
                    both("state(" + asked + ")", x -> x.state(asked), y -> y.state(asked));
            }
        }
    }

    private static void least() {
        int order = between(0, 5) == 0 ? mostly(0, 54321)
            : Lines.orders(tanks).get(between(0, Lines.orders(tanks).size() - 1));
        both("least(" + order + ")", x -> x.least(order), y -> y.least(order));
    }

    private static int answer(Runnable call) {
        call.run();
        return 0;
    }

    private static void both(String call, ToIntFunction<HoistPlanner> x, ToIntFunction<PlainPlanner> y) {
        if (calls == CALLS) {
            return;
        }
        calls++;
        CHECK.dueText(call + " as call " + calls, text(() -> x.applyAsInt(planner)), text(() -> y.applyAsInt(plain)));
    }

    private interface Asked {
        int ask();
    }

    private static String text(Asked asked) {
        try {
            int answer = asked.ask();
            answered[0]++;
            return Integer.toString(answer);
        } catch (IllegalStateException | IllegalArgumentException e) {
            answered[e instanceof IllegalStateException ? 1 : 2]++;
            return e.getClass().getSimpleName();
        }
    }
}
