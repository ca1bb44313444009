/** Promises 7 to 9: solve, least, plan. */
public final class SolvingTest {
    private static final Check CHECK = new Check();

    public static void main(String[] args) {
        promise7LeastOfAllOrders();
        promise7LastOrder();
        promise7FirstOfEqualOrders();
        promise7NoPlanAtAll();
        promise7LongestCycle();
        promise7LineStartsAnew();
        promise8LeastOfAnOrder();
        promise8NoOrders();
        promise8StateComesFirst();
        promise9Plan();
        promise9SoakOverTheEnd();
        promise9WrongCalls();
        CHECK.end();
    }

    private static void promise7LeastOfAllOrders() {
        HoistPlanner x = Lines.twoTanks();
        CHECK.due("7 two tanks", x.solve(), 95);
        HoistPlanner y = Lines.threeTanks();
        CHECK.due("7 three tanks", y.solve(), 130);
        CHECK.due("7 its order", y.plan(0, 4), 312);
    }

    /** A soak of four moves' time puts each move just ahead of the one that fills its tank. */
    private static void promise7LastOrder() {
        HoistPlanner x = Reference.of(5).allSoaks(40, 40).planner();
        CHECK.due("7 the hoist never waits", x.solve(), 60);
        CHECK.due("7 the last order of all", x.plan(0, 4), 54321);
        CHECK.due("7 the first order", x.least(12345), 260);
    }

    private static void promise7FirstOfEqualOrders() {
        HoistPlanner x = new HoistPlanner();
        x.line(3);
        int first = 0;
        CHECK.due("7 solve", x.solve(), 40);
        for (int order : new int[] {123, 132, 213, 231, 312, 321}) {
            if (x.least(order) == 40 && first == 0) {
                first = order;
            }
        }
        CHECK.due("7 the first order", x.plan(0, 4), first);
        CHECK.due("7 there are others", x.least(321), 40);
        x.soak(1, 30, 500);
        CHECK.due("7 solve with a soak of 30", x.solve(), 50);
        CHECK.due("7 least(231) is equal", x.least(231), 50);
        CHECK.due("7 least(321) is equal", x.least(321), 50);
        CHECK.due("7 the first of the equal ones", x.plan(0, 4), 231);
    }

    private static void promise7NoPlanAtAll() {
        HoistPlanner x = slowLine(270);
        CHECK.due("7 no order has one", x.solve(), HoistPlanner.NONE);
        CHECK.throwsState("7 no plan", () -> x.plan(0, 3));
        CHECK.throwsState("7 no run", () -> x.run(0));
        CHECK.throwsState("7 no stop", () -> x.stop(false));
        CHECK.throwsState("7 no tank", () -> x.tank(1));
        CHECK.throwsState("7 no state", () -> x.state(0));
        CHECK.due("7 longer soaks have one", slowLine(300).solve(), 1400);
        x.line(1);
        CHECK.due("7 a plan again", x.solve(), 20);
        CHECK.due("7 and it is there", x.plan(0, 3), 20);
    }

    private static void promise7LongestCycle() {
        HoistPlanner x = slowLine(260);
        CHECK.due("7 a cycle of 2000", x.solve(), 2000);
        CHECK.due("7 its order", x.plan(0, 4), 12345);
        CHECK.due("7 the last move", x.plan(5, 1), 1800);
        x.soak(5, 261, 261);
        CHECK.due("7 none of 2001", x.least(12345), HoistPlanner.NONE);
        CHECK.due("7 nor another order", x.solve(), HoistPlanner.NONE);
    }

    /** Five tanks with the same soak exactly, and all ways of 100 seconds. */
    private static HoistPlanner slowLine(int soak) {
        return Reference.of(5).allLoaded(100).allEmpty(100).allSoaks(soak, soak).planner();
    }

    private static void promise7LineStartsAnew() {
        HoistPlanner x = Lines.solved(Lines.threeTanks());
        x.run(205);
        x.stop(true);
        CHECK.due("7 one is done", x.state(2), 1);
        CHECK.due("7 solve again", x.solve(), 130);
        for (int what = 0; what <= 6; what++) {
            CHECK.due("7 state(" + what + ")", x.state(what), what == 4 ? HoistPlanner.NONE : what == 5 ? 1 : 0);
        }
        for (int i = 1; i <= 3; i++) {
            CHECK.due("7 tank(" + i + ")", x.tank(i), 0);
        }
        CHECK.due("7 carriers may enter", x.run(1), 1);
        CHECK.due("7 the first is numbered 1", x.state(3), 1);
    }

    private static void promise8LeastOfAnOrder() {
        HoistPlanner x = Lines.threeTanks();
        CHECK.due("8 least(123)", x.least(123), 190);
        CHECK.due("8 least(312)", x.least(312), 130);
        for (int order : new int[] {132, 213, 231, 321}) {
            CHECK.due("8 least(" + order + ")", x.least(order), HoistPlanner.NONE);
        }
        x.solve();
        x.run(7);
        CHECK.due("8 least(123) with a plan", x.least(123), 190);
        CHECK.due("8 the plan stays", x.plan(0, 4), 312);
        CHECK.due("8 its times stay", x.plan(3, 1), 50);
        CHECK.due("8 the second stays", x.state(0), 7);
    }

    private static void promise8NoOrders() {
        int[][] wrong = {
            {0, 2, 10, 11, 12, 21, 101},
            {0, 1, 2, 11, 22, 13, 20, 102, 112, 121, 120, 210, 201},
            {12, 21, 122, 124, 230, 231 + 1000, 3210, 312 * 10, 1123, 333, 321 * 1000},
            {1233, 123, 12345, 4322, 5123, 1230, 43210},
            {1234, 123456, 12344, 54320, 65432, 111111, 543210, 112345},
        };
        for (int n = 1; n <= 5; n++) {
            HoistPlanner x = new HoistPlanner();
            x.line(n);
            x.solve();
            for (int order : wrong[n - 1]) {
                CHECK.throwsArgument("8 least(" + order + ") of " + n, () -> x.least(order));
                CHECK.throwsArgument("8 least(-" + order + ") of " + n, () -> x.least(-order));
            }
            CHECK.throwsArgument("8 least far off", () -> x.least(Integer.MAX_VALUE));
            CHECK.throwsArgument("8 least far below", () -> x.least(Integer.MIN_VALUE));
            CHECK.throwsArgument("8 least(-12345)", () -> x.least(-12345));
            CHECK.due("8 the plan stays", x.plan(0, 3), 10 * (n + 1));
        }
    }

    private static void promise8StateComesFirst() {
        HoistPlanner x = new HoistPlanner();
        Lines.allEmptyWays(x, 1, 11);
        CHECK.throwsState("8 not ready", () -> x.least(1));
        CHECK.throwsState("8 not ready and no order", () -> x.least(7));
        CHECK.throwsState("7 not ready", x::solve);
        x.loaded(0, 11);
        x.loaded(1, 11);
        CHECK.due("8 ready", x.least(1), 33);
        CHECK.throwsArgument("8 no order", () -> x.least(7));
    }

    private static void promise9Plan() {
        HoistPlanner x = Lines.solved(Lines.threeTanks());
        int[] moves = {0, 3, 1, 2};
        int[] times = {0, 110, 120, 50};
        int[] soaks = {0, 100, 0, 50};
        for (int k = 0; k <= 3; k++) {
            CHECK.due("9 plan(" + k + ", 0)", x.plan(k, 0), moves[k]);
            CHECK.due("9 plan(" + k + ", 1)", x.plan(k, 1), times[k]);
            if (k > 0) {
                CHECK.due("9 plan(" + k + ", 2)", x.plan(k, 2), soaks[k]);
            }
        }
        for (int k : new int[] {Integer.MIN_VALUE, -1, 0, 3, 4, Integer.MAX_VALUE}) {
            CHECK.due("9 plan(" + k + ", 3)", x.plan(k, 3), 130);
            CHECK.due("9 plan(" + k + ", 4)", x.plan(k, 4), 312);
        }
    }

    /** Of the times that may be the least are taken, so it is the last soak that waits for the cycle's end. */
    private static void promise9SoakOverTheEnd() {
        HoistPlanner x = new HoistPlanner();
        x.line(2);
        x.soak(1, 60, 90);
        x.soak(2, 5, 80);
        CHECK.due("9 solve", x.solve(), 80);
        CHECK.due("9 order", x.plan(0, 4), 21);
        CHECK.due("9 time of move 2", x.plan(2, 1), 10);
        CHECK.due("9 time of move 1", x.plan(1, 1), 70);
        CHECK.due("9 soak of tank 1", x.plan(1, 2), 60);
        CHECK.due("9 soak of tank 2", x.plan(2, 2), 10);
        x.soak(2, 33, 80);
        CHECK.due("9 solve", x.solve(), 80);
        CHECK.due("9 move 2 waits for low", x.plan(2, 1), 33);
        CHECK.due("9 soak of tank 2 is its low", x.plan(2, 2), 33);
    }

    private static void promise9WrongCalls() {
        HoistPlanner x = Lines.threeTanks();
        CHECK.throwsState("9 no plan", () -> x.plan(0, 3));
        CHECK.throwsState("9 no plan and no what", () -> x.plan(0, 9));
        x.solve();
        for (int k : new int[] {Integer.MIN_VALUE, -1, 4, 5, Integer.MAX_VALUE}) {
            for (int what = 0; what <= 2; what++) {
                int asked = what;
                CHECK.throwsArgument("9 plan(" + k + ", " + what + ")", () -> x.plan(k, asked));
            }
        }
        CHECK.throwsArgument("9 tank 0 has no soak", () -> x.plan(0, 2));
        for (int what : new int[] {Integer.MIN_VALUE, -1, 5, Integer.MAX_VALUE}) {
            CHECK.throwsArgument("9 what " + what, () -> x.plan(0, what));
        }
    }
}
