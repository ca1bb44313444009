/** Promises 1 to 6: a new object, line, soak, loaded, empty, ready. */
public final class DataTest {
    private static final Check CHECK = new Check();
    private static final int[] FAR = {Integer.MIN_VALUE, -1, Integer.MAX_VALUE};

    public static void main(String[] args) {
        promise1NewObject();
        promise2Line();
        promise2LineForgetsData();
        promise3Soak();
        promise3WrongSoaks();
        promise4Loaded();
        promise4WrongLoaded();
        promise5Empty();
        promise5WrongEmpty();
        promise6SlowEmptyWays();
        promise6RoundaboutWays();
        dataCallsDropThePlan();
        wrongDataCallsKeepThePlan();
        CHECK.end();
    }

    private static void promise1NewObject() {
        HoistPlanner x = new HoistPlanner();
        CHECK.due("1 ready", x.ready(), 0);
        noPlan("1 new", x);
        CHECK.throwsArgument("1 there is no tank 2", () -> x.soak(2, 0, 0));
        CHECK.throwsArgument("1 there is no move 2", () -> x.loaded(2, 1));
        CHECK.throwsArgument("1 there is no place 3", () -> x.empty(0, 3, 1));
        CHECK.due("1 least(1)", x.least(1), 20);
        noPlan("1 least makes no plan", x);
        CHECK.due("1 loaded 10, empty 0, low 0", x.solve(), 20);
        CHECK.due("1 low 0", x.plan(1, 2), 0);
    }

    private static void promise2Line() {
        HoistPlanner x = new HoistPlanner();
        for (int n : new int[] {0, 6, Integer.MIN_VALUE, -1, Integer.MAX_VALUE}) {
            CHECK.throwsArgument("2 line(" + n + ")", () -> x.line(n));
        }
        for (int n = 1; n <= 5; n++) {
            x.line(n);
            noPlan("2 line", x);
            CHECK.due("2 line(" + n + ") solve", x.solve(), 10 * (n + 1));
            CHECK.due("2 last move", x.plan(n, 1), 10 * n);
            int beyond = n + 1;
            CHECK.throwsArgument("2 no move beyond n", () -> x.plan(beyond, 1));
            x.soak(n, 1, 2);
            x.loaded(n, 1);
            x.empty(n + 1, 0, 1);
            CHECK.throwsArgument("2 no tank beyond n", () -> x.soak(beyond, 1, 2));
            CHECK.throwsArgument("2 no move beyond n", () -> x.loaded(beyond, 1));
            CHECK.throwsArgument("2 no place beyond n + 1", () -> x.empty(0, beyond + 1, 1));
        }
    }

    private static void promise2LineForgetsData() {
        HoistPlanner x = new HoistPlanner();
        x.line(5);
        for (int i = 0; i <= 5; i++) {
            x.loaded(i, 77);
        }
        for (int i = 1; i <= 5; i++) {
            x.soak(i, 3, 4);
        }
        Lines.allEmptyWays(x, 5, 60);
        x.empty(2, 4, 100);
        x.empty(4, 6, 10);
        x.line(5);
        CHECK.due("2 ready", x.ready(), 0);
        CHECK.due("2 solve", x.solve(), 60);
        CHECK.due("2 order", x.plan(0, 4), 12345);
        x.line(3);
        x.soak(1, 500, 500);
        x.loaded(3, 100);
        x.line(1);
        x.line(3);
        CHECK.due("2 solve after a shorter line", x.solve(), 40);
        highIs500AfterLine();
    }

    /** In order 4321 each carrier soaks four empty ways and three loaded ones: 500 seconds, or 501 with one more. */
    private static void highIs500AfterLine() {
        HoistPlanner x = new HoistPlanner();
        x.line(4);
        for (int i = 1; i <= 4; i++) {
            x.soak(i, 0, 3);
        }
        x.line(4);
        for (int i = 0; i <= 4; i++) {
            x.loaded(i, 100);
        }
        Lines.allEmptyWays(x, 4, 50);
        CHECK.due("2 a soak of 500", x.least(4321), 750);
        x.empty(2, 0, 51);
        CHECK.due("2 no soak of 501", x.least(4321), HoistPlanner.NONE);
    }

    private static void promise3Soak() {
        HoistPlanner x = new HoistPlanner();
        x.soak(1, 0, 0);
        CHECK.due("3 soak 0", x.solve(), 20);
        x.soak(1, 500, 500);
        CHECK.due("3 soak 500", x.solve(), 520);
        CHECK.due("3 soak 500 in the plan", x.plan(1, 2), 500);
        x.soak(1, 7, 9);
        CHECK.due("3 soak 7 .. 9", x.solve(), 27);
        CHECK.due("3 the low one is taken", x.plan(1, 2), 7);
        x.line(2);
        x.soak(1, 40, 41);
        x.soak(2, 0, 100);
        CHECK.due("3 tank 1 alone", x.solve(), 60);
        CHECK.due("3 its order", x.plan(0, 4), 21);
        x.soak(2, 0, 9);
        CHECK.due("3 high 9 of tank 2 is too little", x.least(21), HoistPlanner.NONE);
        x.soak(2, 0, 10);
        CHECK.due("3 high 10 of tank 2 is enough", x.least(21), 60);
    }

    private static void promise3WrongSoaks() {
        HoistPlanner x = new HoistPlanner();
        x.line(3);
        for (int tank : new int[] {0, 4, 5, 6, Integer.MIN_VALUE, -1, Integer.MAX_VALUE}) {
            CHECK.throwsArgument("3 tank " + tank, () -> x.soak(tank, 1, 2));
        }
        int[][] wrong = {{5, 4}, {-1, 4}, {0, 501}, {501, 501}, {-2, -1}, {500, 499},
            {Integer.MIN_VALUE, Integer.MAX_VALUE}, {0, Integer.MAX_VALUE}, {0, Integer.MIN_VALUE}};
        for (int[] w : wrong) {
            CHECK.throwsArgument("3 soak " + w[0] + " .. " + w[1], () -> x.soak(1, w[0], w[1]));
        }
        CHECK.due("3 wrong soaks change nothing", x.solve(), 40);
    }

    private static void promise4Loaded() {
        HoistPlanner x = new HoistPlanner();
        x.loaded(0, 1);
        CHECK.due("4 loaded 1", x.solve(), 11);
        CHECK.due("4 move 1 begins at 1", x.plan(1, 1), 1);
        x.loaded(1, 100);
        CHECK.due("4 loaded 100", x.solve(), 101);
        x.line(5);
        x.loaded(5, 13);
        CHECK.due("4 the last move", x.solve(), 63);
    }

    private static void promise4WrongLoaded() {
        HoistPlanner x = new HoistPlanner();
        x.line(4);
        for (int move : new int[] {5, 6, Integer.MIN_VALUE, -1, Integer.MAX_VALUE}) {
            CHECK.throwsArgument("4 move " + move, () -> x.loaded(move, 5));
        }
        for (int seconds : new int[] {0, 101, Integer.MIN_VALUE, -1, Integer.MAX_VALUE}) {
            CHECK.throwsArgument("4 seconds " + seconds, () -> x.loaded(0, seconds));
        }
        CHECK.due("4 wrong calls change nothing", x.solve(), 50);
    }

    private static void promise5Empty() {
        HoistPlanner x = new HoistPlanner();
        x.empty(2, 0, 100);
        CHECK.due("5 not ready by 2, 1, 0", x.ready(), 100 + 49 * 2 + 7);
        x.empty(2, 1, 100);
        CHECK.due("5 ready", x.ready(), 0);
        CHECK.due("5 the way back counts", x.solve(), 120);
        x.empty(0, 1, 10);
        CHECK.due("5 the other direction does not", x.solve(), 120);
        x.empty(2, 0, 0);
        CHECK.due("5 the way from 2 by 0 to 1 is short", x.ready(), 100 + 49 * 2 + 1);
        x.empty(2, 1, 10);
        CHECK.due("5 ready again", x.ready(), 0);
        CHECK.due("5 back to 0", x.solve(), 20);
    }

    private static void promise5WrongEmpty() {
        HoistPlanner x = new HoistPlanner();
        x.line(2);
        for (int place : new int[] {4, 5, 6, 7, Integer.MIN_VALUE, -1, Integer.MAX_VALUE}) {
            CHECK.throwsArgument("5 from " + place, () -> x.empty(place, 1, 1));
            CHECK.throwsArgument("5 to " + place, () -> x.empty(1, place, 1));
        }
        for (int place = 0; place <= 3; place++) {
            int same = place;
            CHECK.throwsArgument("5 both " + place, () -> x.empty(same, same, 0));
        }
        for (int seconds : new int[] {101, Integer.MIN_VALUE, -1, Integer.MAX_VALUE}) {
            CHECK.throwsArgument("5 seconds " + seconds, () -> x.empty(0, 3, seconds));
        }
        CHECK.due("5 wrong calls change nothing", x.ready(), 0);
    }

    private static void promise6SlowEmptyWays() {
        for (int n = 1; n <= 5; n++) {
            HoistPlanner x = new HoistPlanner();
            x.line(n);
            Lines.allEmptyWays(x, n, 10);
            CHECK.due("6 as long as loaded is ready", x.ready(), 0);
            for (int i = n; i >= 0; i--) {
                x.empty(i, i + 1, 11);
                CHECK.due("6 the least slow way", x.ready(), 1 + i);
            }
            for (int i = 0; i <= n; i++) {
                x.loaded(i, 11);
                CHECK.due("6 the next slow way", x.ready(), i == n ? 0 : 2 + i);
            }
        }
        HoistPlanner x = new HoistPlanner();
        x.empty(0, 1, 11);
        x.empty(2, 0, 3);
        CHECK.due("6 slow ways go first", x.ready(), 1);
        CHECK.throwsState("6 solve", x::solve);
        CHECK.throwsState("6 least", () -> x.least(1));
    }

    private static void promise6RoundaboutWays() {
        HoistPlanner x = new HoistPlanner();
        x.line(5);
        Lines.allEmptyWays(x, 5, 5);
        x.empty(6, 4, 11);
        CHECK.due("6 from 6 by 0 to 4", x.ready(), 100 + 49 * 6 + 4);
        for (int y = 0; y <= 5; y++) {
            if (y != 4) {
                CHECK.due("6 y " + y, x.ready(), 100 + 49 * 6 + 7 * y + 4);
                x.empty(6, y, 6);
            }
        }
        CHECK.due("6 all ways mended", x.ready(), 0);
        x.empty(6, 4, 12);
        CHECK.due("6 the first place again", x.ready(), 100 + 49 * 6 + 4);
        x.empty(3, 0, 11);
        CHECK.due("6 the least x", x.ready(), 100 + 49 * 3 + 7);
        CHECK.throwsState("6 solve", x::solve);
        CHECK.throwsState("6 least", () -> x.least(12345));
        CHECK.throwsState("6 least of no order", () -> x.least(0));
    }

    private static void dataCallsDropThePlan() {
        HoistPlanner x = new HoistPlanner();
        x.solve();
        x.line(1);
        noPlan("2 line", x);
        x.solve();
        x.soak(1, 0, 500);
        noPlan("3 soak", x);
        x.solve();
        x.loaded(0, 10);
        noPlan("4 loaded", x);
        x.solve();
        x.empty(0, 2, 0);
        noPlan("5 empty", x);
    }

    private static void wrongDataCallsKeepThePlan() {
        HoistPlanner x = Lines.solved(new HoistPlanner());
        x.run(15);
        for (int far : FAR) {
            CHECK.throwsArgument("line", () -> x.line(far));
            CHECK.throwsArgument("soak", () -> x.soak(far, 0, 0));
            CHECK.throwsArgument("loaded", () -> x.loaded(far, 1));
            CHECK.throwsArgument("empty", () -> x.empty(far, 0, 1));
        }
        CHECK.throwsArgument("soak", () -> x.soak(1, 3, 2));
        CHECK.throwsArgument("loaded", () -> x.loaded(0, 0));
        CHECK.throwsArgument("empty", () -> x.empty(0, 1, 101));
        CHECK.due("the plan stays", x.plan(0, 3), 20);
        CHECK.due("the second stays", x.state(0), 15);
        CHECK.due("the carrier stays", x.state(3), 1);
        CHECK.due("all data stay", x.solve(), 20);
    }

    private static void noPlan(String what, HoistPlanner x) {
        CHECK.throwsState(what + ": plan", () -> x.plan(0, 3));
        CHECK.throwsState(what + ": run", () -> x.run(1));
        CHECK.throwsState(what + ": stop", () -> x.stop(true));
        CHECK.throwsState(what + ": tank", () -> x.tank(1));
        CHECK.throwsState(what + ": state", () -> x.state(0));
    }
}
