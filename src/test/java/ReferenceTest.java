import java.util.ArrayList;
import java.util.List;
import java.util.Random;

/** Lines of many kinds, solved and run against the plain reference; the seed is fixed, so all runs are the same. */
public final class ReferenceTest {
    private static final Check CHECK = new Check();
    private static final Random RANDOM = new Random(20261115);
    /** With five tanks a step takes 14 calls, and an object is used for at most 512. */
    private static final int STEPS = 25;
    private static final int LAST_STOP = 20;
    private static int solved = 0;
    private static int unsolved = 0;

    public static void main(String[] args) {
        for (int k = 0; k < 3000; k++) {
            checkReady(anyLine(1 + k % 5));
        }
        int[] lines = {60, 200, 300, 200, 40};
        for (int n = 1; n <= 5; n++) {
            for (int k = 0; k < lines[n - 1]; k++) {
                checkLine(readyLine(n));
            }
        }
        for (int k = 0; k < 80; k++) {
            checkLine(slowLine(4 + k % 2));
        }
        CHECK.due("lines of both kinds were met", solved > 100 && unsolved > 10 ? 1 : 0, 1);
        System.out.println(solved + " lines solved, " + unsolved + " without a plan");
        CHECK.end();
    }

    private static int between(int least, int most) {
        return least + RANDOM.nextInt(most - least + 1);
    }

    /** Most of its ways are ready ones, so that the few others tell which one is named. */
    private static Reference anyLine(int n) {
        Reference line = Reference.of(n);
        int way = between(0, 50);
        line.allEmpty(way).allLoaded(Math.max(1, way));
        int changes = between(0, 3);
        for (int k = 0; k < changes; k++) {
            int from = between(0, n + 1);
            int to = between(0, n + 1);
            if (from != to) {
                line.empty[from][to] = between(0, 100);
            }
            line.loaded[between(0, n)] = between(1, 100);
        }
        return line;
    }

    private static void checkReady(Reference line) {
        HoistPlanner x = line.planner();
        CHECK.due("6 ready", x.ready(), line.ready());
        CHECK.dueText("7 solve throws", Check.thrownBy(x::solve),
            line.ready() == 0 ? Check.NOTHING : Check.STATE);
    }

    private static Reference readyLine(int n) {
        Reference line = Reference.of(n);
        int longest = between(0, 3) == 0 ? 100 : between(1, 40);
        for (int from = 0; from <= n + 1; from++) {
            for (int to = 0; to <= n + 1; to++) {
                line.empty[from][to] = from == to ? 0 : between(0, longest);
            }
        }
        shortenWays(line);
        for (int i = 0; i <= n; i++) {
            line.loaded[i] = Math.min(100, Math.max(1, line.empty[i][i + 1]) + between(0, longest));
        }
        int longestSoak = between(0, 2) == 0 ? 500 : between(0, 200);
        for (int i = 1; i <= n; i++) {
            line.low[i] = between(0, longestSoak);
            line.high[i] = Math.min(500, line.low[i] + between(0, between(0, 3) == 0 ? 200 : 30));
        }
        return line;
    }

    /** Long ways and soaks that leave no choice: often without a plan. */
    private static Reference slowLine(int n) {
        Reference line = Reference.of(n).allEmpty(between(95, 100)).allLoaded(100);
        for (int i = 1; i <= n; i++) {
            line.low[i] = between(n == 4 ? 400 : 200, 500);
            line.high[i] = Math.min(500, line.low[i] + between(0, 3));
        }
        return line;
    }

    private static void shortenWays(Reference line) {
        for (int y = 0; y <= line.n + 1; y++) {
            for (int x = 0; x <= line.n + 1; x++) {
                for (int z = 0; z <= line.n + 1; z++) {
                    line.empty[x][z] = Math.min(line.empty[x][z], line.empty[x][y] + line.empty[y][z]);
                }
            }
        }
    }

    private static void checkLine(Reference line) {
        HoistPlanner x = line.planner();
        CHECK.due("6 ready", x.ready(), 0);
        int most = (int) Math.pow(10, line.n);
        for (int number = most / 10; number < most; number++) {
            if (line.isOrder(number) && between(0, 3) == 0) {
                CHECK.due("8 least(" + number + ")", x.least(number), line.least(number));
            }
        }
        CHECK.due("7 solve", x.solve(), line.solve());
        if (line.cycle == Reference.NONE) {
            unsolved++;
            CHECK.throwsState("7 there is no plan", () -> x.plan(0, 3));
            return;
        }
        solved++;
        checkPlan(x, line);
        checkRun(x, line);
    }

    private static void checkPlan(HoistPlanner x, Reference line) {
        CHECK.due("9 T", x.plan(0, 3), line.cycle);
        CHECK.due("9 order", x.plan(0, 4), line.order);
        String moves = "0" + line.order;
        for (int k = 0; k <= line.n; k++) {
            CHECK.due("9 move", x.plan(k, 0), moves.charAt(k) - '0');
            CHECK.due("9 time", x.plan(k, 1), line.times[k]);
            if (k > 0) {
                CHECK.due("9 soak", x.plan(k, 2), line.soak(k));
            }
        }
    }

    /** Where each carrier is follows from the second of its entry alone. */
    private static void checkRun(HoistPlanner x, Reference line) {
        List<Integer> entries = new ArrayList<>();
        boolean stopped = false;
        int second = 0;
        for (int k = 0; k < STEPS; k++) {
            if (between(0, 5) == 0 || k == LAST_STOP) {
                stopped = k >= LAST_STOP || !stopped;
                x.stop(stopped);
            }
            int seconds = between(0, 9) == 0 ? between(0, 5000) : between(0, line.cycle / 2);
            for (int s = second; s < second + seconds; s++) {
                if (s % line.cycle == 0 && !stopped) {
                    entries.add(s);
                }
            }
            CHECK.due("10 run", x.run(seconds), begun(line, entries, second, second + seconds));
            second += seconds;
            checkWhereabouts(x, line, entries, second);
        }
    }

    private static int begun(Reference line, List<Integer> entries, int from, int to) {
        int begun = 0;
        for (int entry : entries) {
            for (int move = 0; move <= line.n; move++) {
                int second = entry + line.begin(move);
                if (from <= second && second < to) {
                    begun++;
                }
            }
        }
        return begun;
    }

    private static void checkWhereabouts(HoistPlanner x, Reference line, List<Integer> entries, int second) {
        int[] tanks = new int[line.n + 1];
        int[] state = {second, entries.size(), 0, 0, -1, 1, 0};
        for (int c = 0; c < entries.size(); c++) {
            int age = second - 1 - entries.get(c);
            if (age >= line.begin(line.n + 1)) {
                state[2]++;
                state[6] = line.begin(line.n + 1);
                continue;
            }
            state[5] = 0;
            int move = lastMove(line, age);
            if (age < line.begin(move) + line.loaded[move]) {
                state[3] = c + 1;
                state[4] = move;
            } else {
                tanks[move + 1] = c + 1;
            }
        }
        for (int what = 0; what <= 6; what++) {
            CHECK.due("13 state(" + what + ")", x.state(what), state[what]);
        }
        for (int i = 1; i <= line.n; i++) {
            CHECK.due("12 tank(" + i + ")", x.tank(i), tanks[i]);
        }
    }

    private static int lastMove(Reference line, int age) {
        int move = 0;
        while (move < line.n && line.begin(move + 1) <= age) {
            move++;
        }
        return move;
    }
}
