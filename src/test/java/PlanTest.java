import java.util.List;

/**
 * Promises 7 to 9 and the rules of a plan: the cycle from 1 to 2000, the times from 0 to T - 1, the soak from low
 * to high and over the cycle's end, and which of several orders is taken.
 */
public final class PlanTest {
    private static final Check CHECK = new Check();
    private static final int NONE = HoistPlanner.NONE;

    public static void main(String[] args) {
        shortestCycleOfAll();
        longestDataOfThreeTanks();
        cycleOfTwoThousandInSolve();
        cycleOfTwoThousandOverTheEnd();
        wayIsFromWhereAMoveEnds();
        wayBackCountsForMoveZero();
        soakIsFromLowToHigh();
        soakOverTheEndIsFromLowToHigh();
        soakOverTheEndAsLongAsMayBe();
        soaksShareTheCycle();
        moveZeroIsFirstAndAtZero();
        timesAreTheLeastThatMayBe();
        timeWaitsForAHigh();
        firstOfSeveralOrders();
        laterOrderBetterByOne();
        for (int n = 1; n <= 5; n++) {
            eachOrderCanBeTheBest(n);
            firstOfTwoOrders(n);
            cycleAndOrderWhateverKIs(n);
            soakOfEachTank(n);
        }
        noOrderHasACycle();
        solvingAgainStartsAnew();
        leastChangesNothing();
        CHECK.end();
    }

    /** "a cycle T (1 .. 2000)", "a TIME t, 0 .. T - 1": n + 1 moves of a second each leave no second free. */
    private static void shortestCycleOfAll() {
        for (int n = 1; n <= 5; n++) {
            HoistPlanner x = Reference.of(n).allLoaded(1).planner();
            CHECK.due("shortest cycle of " + n, x.solve(), n + 1);
            CHECK.due("its first time", x.plan(0, 1), 0);
            CHECK.due("its last time is T - 1", x.plan(n, 1), n);
            CHECK.due("each second has its move", x.run(100), 100);
        }
    }

    /** All data at their most: T is 2000, just allowed. With four tanks they are more. */
    private static void longestDataOfThreeTanks() {
        HoistPlanner x = Reference.of(3).allLoaded(100).allEmpty(100).allSoaks(500, 500).planner();
        CHECK.due("longest data of three tanks", x.least(123), 2000);
        HoistPlanner y = Reference.of(4).allLoaded(100).allEmpty(100).allSoaks(500, 500).planner();
        CHECK.due("longest data of four tanks", y.least(1234), NONE);
    }

    /** "a cycle T (1 .. 2000)": with exact soaks only order 12345 is left; one second more is one too many. */
    private static void cycleOfTwoThousandInSolve() {
        HoistPlanner x = Reference.of(5).allLoaded(100).allEmpty(100).allSoaks(260, 260).planner();
        CHECK.due("a cycle of 2000", x.solve(), 2000);
        CHECK.due("it is the plan's", x.plan(0, 3), 2000);
        CHECK.due("its last time", x.plan(5, 1), 1800);
        CHECK.due("it begins again at 2000", x.run(2000), 6);
        CHECK.due("not before", x.state(1), 1);
        CHECK.due("but then", x.run(1), 1);
        x.soak(3, 261, 261);
        CHECK.due("none of 2001", x.solve(), NONE);
        x.soak(3, 259, 259);
        CHECK.due("a cycle of 1999", x.solve(), 1999);
    }

    /** Order 51234: moves 1 to 4 at 475, 950, 1425 and 1900, and tank 5 is emptied in the next cycle. */
    private static void cycleOfTwoThousandOverTheEnd() {
        HoistPlanner x = Reference.of(5).allLoaded(100).allSoaks(375, 375).planner();
        x.soak(5, 0, 500);
        CHECK.due("a cycle of 2000", x.least(51234), 2000);
        x.soak(4, 376, 376);
        CHECK.due("none of 2001", x.least(51234), NONE);
        x.soak(4, 374, 374);
        CHECK.due("a cycle of 1999", x.least(51234), 1999);
    }

    /** ".. its loaded seconds, and the empty way from where it ends to where the second one begins". */
    private static void wayIsFromWhereAMoveEnds() {
        Reference line = Reference.of(3).allLoaded(50);
        for (int from = 0; from <= 4; from++) {
            for (int to = 0; to <= 4; to++) {
                line.empty[from][to] = from == to ? 0 : 20 + 3 * from + to;
            }
        }
        HoistPlanner x = line.planner();
        CHECK.due("ready", x.ready(), 0);
        CHECK.due("moves 0, 1, 2, 3: the way from 4 to 0", x.least(123), 200 + 32);
        CHECK.due("moves 0, 1, 3, 2: ways 2 to 3, 4 to 2, 3 to 0", x.least(132), 200 + 29 + 34 + 29);
        CHECK.due("moves 0, 2, 1, 3: ways 1 to 2, 3 to 1, 2 to 3, 4 to 0", x.least(213), 200 + 25 + 30 + 29 + 32);
        CHECK.due("moves 0, 2, 3, 1: ways 1 to 2, 4 to 1, 2 to 0", x.least(231), 200 + 25 + 33 + 26);
        CHECK.due("moves 0, 3, 1, 2: ways 1 to 3, 4 to 1, 3 to 0", x.least(312), 200 + 26 + 33 + 29);
        CHECK.due("moves 0, 3, 2, 1: ways 1 to 3, 4 to 2, 3 to 1, 2 to 0", x.least(321), 200 + 26 + 34 + 30 + 26);
    }

    /** "for the last move and move 0 likewise with T for the time of move 0". */
    private static void wayBackCountsForMoveZero() {
        HoistPlanner x = new HoistPlanner();
        x.empty(2, 0, 33);
        x.empty(2, 1, 33);
        CHECK.due("10, 10 and 33 back", x.solve(), 53);
        CHECK.due("move 1 doesn't wait for it", x.plan(1, 1), 10);
        CHECK.due("the first round", x.run(53), 2);
        CHECK.due("the second one begins behind it", x.run(1), 1);
    }

    /** "for each tank i, the soak lies from low to high": in order 21 tank 1 soaks while move 2 is made, 10 seconds. */
    private static void soakIsFromLowToHigh() {
        HoistPlanner x = new HoistPlanner();
        x.line(2);
        x.soak(1, 0, 10);
        CHECK.due("high as long as the wait", x.least(21), 30);
        x.soak(1, 0, 9);
        CHECK.due("high shorter by 1", x.least(21), NONE);
        x.soak(1, 10, 10);
        CHECK.due("low as long as the wait", x.least(21), 30);
        x.soak(1, 11, 11);
        CHECK.due("low longer by 1", x.least(21), 31);
        x.soak(1, 9, 9);
        x.soak(2, 0, 0);
        CHECK.due("the soak is exact", x.solve(), 39);
        CHECK.due("in order 12", x.plan(0, 4), 12);
        CHECK.due("soak 1 is low", x.plan(1, 2), 9);
        CHECK.due("soak 2 is low and high 0", x.plan(2, 2), 0);
    }

    /** "T more if move i comes ahead of move i - 1 in the order": tank 2 in order 21. */
    private static void soakOverTheEndIsFromLowToHigh() {
        HoistPlanner x = new HoistPlanner();
        x.line(2);
        x.soak(2, 0, 10);
        CHECK.due("high as long as the wait", x.least(21), 30);
        x.soak(2, 0, 9);
        CHECK.due("high shorter by 1", x.least(21), NONE);
        x.soak(2, 10, 10);
        CHECK.due("low as long as the wait", x.least(21), 30);
        x.soak(2, 11, 11);
        CHECK.due("low longer by 1", x.least(21), 31);
        x.soak(1, 10, 20);
        CHECK.due("solve", x.solve(), 31);
        CHECK.due("in order 21", x.plan(0, 4), 21);
        CHECK.due("move 2", x.plan(2, 1), 10);
        CHECK.due("move 1 is behind it", x.plan(1, 1), 20);
        CHECK.due("soak 1", x.plan(1, 2), 10);
        CHECK.due("soak 2: 10 and 31 less 20 and 10", x.plan(2, 2), 11);
    }

    /** Move 1 at 110 fills tank 2 with the cycle's end, and move 2 empties it 10 to 100 seconds behind that. */
    private static void soakOverTheEndAsLongAsMayBe() {
        HoistPlanner x = new HoistPlanner();
        x.line(2);
        x.soak(1, 100, 100);
        x.soak(2, 0, 9);
        CHECK.due("none with high 9", x.least(21), NONE);
        x.soak(2, 0, 10);
        CHECK.due("solve with high 10", x.solve(), 120);
        CHECK.due("move 2", x.plan(2, 1), 10);
        CHECK.due("soak 2 from 120 to 130", x.plan(2, 2), 10);
        x.soak(2, 100, 100);
        CHECK.due("solve with soak 100", x.solve(), 120);
        CHECK.due("move 2 just ahead of move 1", x.plan(2, 1), 100);
        CHECK.due("soak 2 from 120 to 220", x.plan(2, 2), 100);
        x.soak(2, 101, 101);
        CHECK.due("solve with soak 101", x.solve(), 121);
        CHECK.due("move 2 can't be later", x.plan(2, 1), 100);
        CHECK.due("soak 2 from 120 to 221", x.plan(2, 2), 101);
    }

    /** Order 213: a carrier's way takes two cycles, so 2 T is 40 and the three soaks, and T a whole second. */
    private static void soaksShareTheCycle() {
        int[][] soaks = {{30, 30, 30, 65}, {31, 30, 30, 66}, {31, 31, 30, 66}, {31, 31, 31, 67}};
        for (int[] s : soaks) {
            HoistPlanner x = new HoistPlanner();
            x.line(3);
            for (int i = 1; i <= 3; i++) {
                x.soak(i, s[i - 1], 500);
            }
            CHECK.due("least(213)", x.least(213), s[3]);
        }
    }

    /** "an ORDER of all moves, move 0 first", "move 0 at 0", and each other one behind the one ahead of it. */
    private static void moveZeroIsFirstAndAtZero() {
        for (int n = 1; n <= 5; n++) {
            for (HoistPlanner x : new HoistPlanner[] {Lines.looseLine(n), Lines.tightLine(n)}) {
                int cycle = x.solve();
                CHECK.due("the first move", x.plan(0, 0), 0);
                CHECK.due("its time", x.plan(0, 1), 0);
                int digits = 0;
                for (int k = 1; k <= n; k++) {
                    int move = x.plan(k, 0);
                    digits = 10 * digits + move;
                    boolean isLater = x.plan(move, 1) > x.plan(x.plan(k - 1, 0), 1) && x.plan(move, 1) < cycle;
                    CHECK.due("move " + move + " is later, but in the cycle", isLater ? 1 : 0, 1);
                }
                CHECK.due("the order as a number", x.plan(0, 4), digits);
                CHECK.due("all moves are in it", Lines.orders(n).contains(digits) ? 1 : 0, 1);
            }
        }
    }

    /** "The times are the least ones that may be": move 2 could begin at 10 to 60. */
    private static void timesAreTheLeastThatMayBe() {
        HoistPlanner x = new HoistPlanner();
        x.line(2);
        x.soak(1, 60, 60);
        x.soak(2, 10, 500);
        CHECK.due("solve", x.solve(), 80);
        CHECK.due("order", x.plan(0, 4), 21);
        CHECK.due("move 2", x.plan(2, 1), 10);
        CHECK.due("move 1", x.plan(1, 1), 70);
        x.soak(2, 60, 500);
        CHECK.due("solve with low 60", x.solve(), 80);
        CHECK.due("move 2 as late as may be", x.plan(2, 1), 60);
        x.soak(2, 61, 500);
        CHECK.due("solve with low 61", x.solve(), 81);
        CHECK.due("move 2 can't be later", x.plan(2, 1), 60);
    }

    /** Order 213: move 3 comes behind move 1, at 120, and tank 3 soaks 19 seconds at most: move 2 waits until 91. */
    private static void timeWaitsForAHigh() {
        HoistPlanner x = new HoistPlanner();
        x.line(3);
        x.soak(1, 100, 100);
        x.soak(2, 100, 500);
        x.soak(3, 11, 19);
        CHECK.due("solve", x.solve(), 130);
        CHECK.due("order", x.plan(0, 4), 213);
        CHECK.due("move 1", x.plan(1, 1), 110);
        CHECK.due("move 3", x.plan(3, 1), 120);
        CHECK.due("move 2", x.plan(2, 1), 91);
        CHECK.due("soak 3 is its high", x.plan(3, 2), 19);
        CHECK.due("soak 2", x.plan(2, 2), 101);
    }

    /** "of several orders with it the one that is first (by the moves behind move 0, the least number first)". */
    private static void firstOfSeveralOrders() {
        int equals = 0;
        int notPlain = 0;
        for (int n = 2; n <= 4; n++) {
            for (int soak = 0; soak <= 60; soak += 5) {
                for (int longer = 0; longer <= 40; longer += 10) {
                    HoistPlanner x = Reference.of(n).allSoaks(soak, soak + longer).planner();
                    int[] first = firstOrder(x, Lines.orders(n));
                    CHECK.due("solve", x.solve(), first[0]);
                    CHECK.due("the first order", x.plan(0, 4), first[1]);
                    if (first[2] > 1 && first[1] != Lines.plainOrder(n)) {
                        notPlain++;
                    }
                    equals += first[2] > 1 ? 1 : 0;
                }
            }
        }
        CHECK.due("several orders had it often", equals > 30 && notPlain > 10 ? 1 : 0, 1);
    }

    /** The least T of all orders, the first order that has it, and how many have it. */
    private static int[] firstOrder(HoistPlanner x, List<Integer> orders) {
        int[] first = {NONE, NONE, 0};
        for (int order : orders) {
            int cycle = x.least(order);
            if (cycle != NONE && (first[0] == NONE || cycle < first[0])) {
                first = new int[] {cycle, order, 0};
            }
            first[2] += cycle != NONE && cycle == first[0] ? 1 : 0;
        }
        return first;
    }

    /** A later order is taken if it is better by one second alone, and not if it is as good. */
    private static void laterOrderBetterByOne() {
        HoistPlanner x = new HoistPlanner();
        x.line(2);
        x.soak(2, 1, 500);
        CHECK.due("least(12)", x.least(12), 31);
        CHECK.due("least(21)", x.least(21), 30);
        CHECK.due("solve", x.solve(), 30);
        CHECK.due("the later order", x.plan(0, 4), 21);
        x.soak(2, 0, 500);
        CHECK.due("least(12)", x.least(12), 30);
        CHECK.due("solve", x.solve(), 30);
        CHECK.due("the first order", x.plan(0, 4), 12);
    }

    /** "SOLVING looks for the least T of all orders": each order once has the only soaks that let no second pass. */
    private static void eachOrderCanBeTheBest(int n) {
        for (int order : Lines.orders(n)) {
            HoistPlanner x = new HoistPlanner();
            x.line(n);
            for (int i = 1; i <= n; i++) {
                x.soak(i, soakWithoutWaiting(n, order, i), soakWithoutWaiting(n, order, i));
            }
            CHECK.due("T of " + order, x.solve(), 10 * (n + 1));
            CHECK.due("the only order", x.plan(0, 4), order);
        }
    }

    /** Each two neighbours among the orders have the least T, and perhaps others: the least number is taken. */
    private static void firstOfTwoOrders(int n) {
        List<Integer> orders = Lines.orders(n);
        for (int k = 1; k < orders.size(); k++) {
            HoistPlanner x = new HoistPlanner();
            x.line(n);
            for (int i = 1; i <= n; i++) {
                int first = soakWithoutWaiting(n, orders.get(k - 1), i);
                int second = soakWithoutWaiting(n, orders.get(k), i);
                x.soak(i, Math.min(first, second), Math.max(first, second));
            }
            int[] first = firstOrder(x, orders);
            CHECK.due("T of " + orders.get(k), x.solve(), 10 * (n + 1));
            CHECK.due("the first order", x.plan(0, 4), first[1]);
            CHECK.due("others have it too", first[2] > 1 && first[1] < orders.get(k) ? 1 : 0, 1);
        }
    }

    /** The soak of a tank if the moves of 10 seconds each follow one another with no wait. */
    private static int soakWithoutWaiting(int n, int order, int tank) {
        String moves = "0" + order;
        int steps = moves.indexOf('0' + tank) - moves.indexOf('0' + tank - 1);
        return 10 * Math.floorMod(steps, n + 1) - 10;
    }

    /** "NONE if no order has one (then there is no plan)", also where there was one before. */
    private static void noOrderHasACycle() {
        HoistPlanner x = Reference.of(5).allLoaded(100).allEmpty(100).allSoaks(260, 260).planner();
        x.solve();
        x.run(2345);
        x.soak(1, 261, 261);
        for (int order : Lines.orders(5)) {
            CHECK.due("least(" + order + ")", x.least(order), NONE);
        }
        CHECK.due("solve", x.solve(), NONE);
        CHECK.throwsState("no plan", () -> x.plan(0, 3));
        CHECK.throwsState("no run", () -> x.run(0));
        CHECK.throwsState("no stop", () -> x.stop(true));
        CHECK.throwsState("no tank", () -> x.tank(1));
        CHECK.throwsState("no state", () -> x.state(0));
        CHECK.due("the data are still ready", x.ready(), 0);
        x.soak(1, 260, 260);
        CHECK.due("solve again", x.solve(), 2000);
        CHECK.due("a plan again", x.plan(0, 3), 2000);
    }

    /** "The line is empty, at second 0, and carriers may enter." */
    private static void solvingAgainStartsAnew() {
        for (int n = 1; n <= 5; n++) {
            HoistPlanner x = Lines.midway(Lines.tightLine(n));
            HoistPlanner fresh = Lines.solved(Lines.tightLine(n));
            CHECK.due("solve again", x.solve(), fresh.plan(0, 3));
            CHECK.dueText("it starts anew", Answers.of(x, n), Answers.of(fresh, n));
            CHECK.due("it runs anew", x.run(777), fresh.run(777));
            CHECK.dueText("it goes on", Answers.ofLine(x, n), Answers.ofLine(fresh, n));
        }
    }

    /** Promise 9: "T (3, whatever k is), its order as a number (4, whatever k is)". */
    private static void cycleAndOrderWhateverKIs(int n) {
        HoistPlanner x = Lines.tightLine(n);
        int cycle = x.solve();
        int order = 0;
        for (int k = 1; k <= n; k++) {
            order = 10 * order + x.plan(k, 0);
        }
        for (int k : new int[] {Integer.MIN_VALUE, -1, 0, 1, n, n + 1, n + 2, Integer.MAX_VALUE}) {
            CHECK.due("plan(" + k + ", 3)", x.plan(k, 3), cycle);
            CHECK.due("plan(" + k + ", 4)", x.plan(k, 4), order);
        }
    }

    /** Promise 9: "the soak of tank k (2)", from the first tank to the last one. */
    private static void soakOfEachTank(int n) {
        HoistPlanner x = Lines.tightLine(n);
        int cycle = x.solve();
        for (int k = 1; k <= n; k++) {
            int between = x.plan(k, 1) - x.plan(k - 1, 1) - (13 + 2 * k);
            CHECK.due("soak of tank " + k, x.plan(k, 2), between < 0 ? between + cycle : between);
            boolean isRight = x.plan(k, 2) >= 60 + k && x.plan(k, 2) <= 100 + 5 * k;
            CHECK.due("it is from low to high", isRight ? 1 : 0, 1);
        }
    }

    /** least makes no plan its own, and leaves the line alone. */
    private static void leastChangesNothing() {
        HoistPlanner x = Lines.midway(Lines.tightLine(4));
        HoistPlanner twin = Lines.midway(Lines.tightLine(4));
        for (int order : Lines.orders(4)) {
            x.least(order);
        }
        CHECK.dueText("the plan stays", Answers.ofPlan(x, 4), Answers.ofPlan(twin, 4));
        CHECK.due("the line goes on", x.run(333), twin.run(333));
        CHECK.dueText("it is the same", Answers.ofLine(x, 4), Answers.ofLine(twin, 4));
    }
}
