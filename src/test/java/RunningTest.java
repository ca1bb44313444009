/** Promises 10 to 13: run, stop, tank, state. */
public final class RunningTest {
    private static final Check CHECK = new Check();

    public static void main(String[] args) {
        promise10MovesBegun();
        promise10SecondThatDidNotCome();
        promise10InPieces();
        promise10WrongCalls();
        promise11Stop();
        promise11MayEnterAgain();
        promise11NoPlan();
        promise12Tanks();
        promise12WrongCalls();
        promise13State();
        promise13Stay();
        promise13WrongCalls();
        CHECK.end();
    }

    private static void promise10MovesBegun() {
        HoistPlanner x = Lines.solved(new HoistPlanner());
        CHECK.due("10 run(0)", x.run(0), 0);
        CHECK.due("10 no second passed", x.state(0), 0);
        CHECK.due("10 run(1)", x.run(1), 1);
        CHECK.due("10 run(9)", x.run(9), 0);
        CHECK.due("10 run(1)", x.run(1), 1);
        CHECK.due("10 run(5000)", x.run(5000), 500);
        CHECK.due("10 the second", x.state(0), 5011);
        HoistPlanner y = Lines.solved(Lines.threeTanks());
        CHECK.due("10 move 3 is left out in the first cycle", y.run(130), 3);
        CHECK.due("10 and begun in the second", y.run(130), 4);
    }

    private static void promise10SecondThatDidNotCome() {
        HoistPlanner x = Lines.solved(new HoistPlanner());
        x.soak(1, 5, 5);
        x.solve();
        x.run(10);
        CHECK.due("10 a move that ends then goes on", x.state(4), 0);
        CHECK.due("10 its carrier is on the hoist", x.state(3), 1);
        CHECK.due("10 and not in the tank", x.tank(1), 0);
        x.run(1);
        CHECK.due("10 now it is in the tank", x.tank(1), 1);
        CHECK.due("10 and no move goes on", x.state(4), HoistPlanner.NONE);
        x.run(4);
        CHECK.due("10 a move that begins then is not begun", x.tank(1), 1);
        CHECK.due("10 it begins", x.run(1), 1);
        CHECK.due("10 it goes on", x.state(4), 1);
        x.run(9);
        CHECK.due("10 it is not done", x.state(2), 0);
        CHECK.due("10 the next carrier comes", x.run(1), 1);
        CHECK.due("10 the first one is done", x.state(2), 1);
        CHECK.due("10 the next one is on the hoist", x.state(3), 2);
    }

    private static void promise10InPieces() {
        HoistPlanner whole = Lines.solved(Lines.twoTanks());
        HoistPlanner pieces = Lines.solved(Lines.twoTanks());
        int begun = 0;
        for (int k = 0; k < 100; k++) {
            begun += pieces.run(k % 14);
        }
        CHECK.due("10 in pieces", begun, whole.run(pieces.state(0)));
        for (int what = 0; what <= 6; what++) {
            CHECK.due("10 state(" + what + ")", pieces.state(what), whole.state(what));
        }
    }

    private static void promise10WrongCalls() {
        HoistPlanner x = new HoistPlanner();
        CHECK.throwsState("10 no plan", () -> x.run(5));
        CHECK.throwsState("10 no plan and wrong seconds", () -> x.run(-1));
        x.solve();
        for (int seconds : new int[] {Integer.MIN_VALUE, -1, 5001, Integer.MAX_VALUE}) {
            CHECK.throwsArgument("10 run(" + seconds + ")", () -> x.run(seconds));
        }
        CHECK.due("10 no second passed", x.state(0), 0);
        CHECK.due("10 run(5000)", x.run(5000), 500);
    }

    private static void promise11Stop() {
        HoistPlanner x = Lines.solved(Lines.threeTanks());
        x.run(131);
        x.stop(true);
        CHECK.due("11 the carrier on the hoist goes on", x.state(3), 2);
        CHECK.due("11 the moves of two carriers", x.run(1000), 4);
        CHECK.due("11 entered", x.state(1), 2);
        CHECK.due("11 done", x.state(2), 2);
        CHECK.due("11 drained", x.state(5), 1);
        CHECK.due("11 nothing moves", x.run(5000), 0);
        HoistPlanner y = Lines.solved(new HoistPlanner());
        y.stop(true);
        CHECK.due("11 stopped from the start", y.run(500), 0);
        CHECK.due("11 none entered", y.state(1), 0);
        CHECK.due("11 none took any time", y.state(6), 0);
    }

    private static void promise11MayEnterAgain() {
        HoistPlanner x = Lines.solved(new HoistPlanner());
        x.run(20);
        x.stop(true);
        x.stop(true);
        CHECK.due("11 the second 20 has no entry", x.run(21), 0);
        CHECK.due("11 none in it", x.state(1), 1);
        x.stop(false);
        CHECK.due("11 entry waits for its time", x.run(19), 0);
        CHECK.due("11 second 60", x.run(1), 1);
        CHECK.due("11 the next number", x.state(3), 2);
        CHECK.due("11 entered", x.state(1), 2);
        x.stop(false);
        CHECK.due("11 twice is as once", x.run(40), 4);
    }

    private static void promise11NoPlan() {
        HoistPlanner x = new HoistPlanner();
        CHECK.throwsState("11 stop(true)", () -> x.stop(true));
        CHECK.throwsState("11 stop(false)", () -> x.stop(false));
        x.solve();
        CHECK.due("11 the refused stop has no force", x.run(1), 1);
    }

    private static void promise12Tanks() {
        HoistPlanner x = Lines.solved(Lines.threeTanks());
        checkTanks(x, "at 0", 0, 0, 0);
        x.run(11);
        checkTanks(x, "behind 10", 1, 0, 0);
        x.run(99);
        checkTanks(x, "behind 109", 1, 0, 0);
        x.run(1);
        checkTanks(x, "behind 110", 0, 0, 0);
        x.run(10);
        checkTanks(x, "behind 120: through tank 2 at once", 0, 0, 0);
        x.run(10);
        checkTanks(x, "behind 130", 0, 0, 1);
        x.run(10);
        checkTanks(x, "behind 140", 2, 0, 1);
        x.run(40);
        checkTanks(x, "behind 180", 2, 0, 0);
        HoistPlanner y = Lines.twoTanks();
        y.solve();
        y.run(42 + 9 + 1);
        CHECK.due("12 tank 1", y.tank(1), 0);
        CHECK.due("12 tank 2", y.tank(2), 1);
    }

    private static void checkTanks(HoistPlanner x, String when, int first, int second, int third) {
        CHECK.due("12 tank(1) " + when, x.tank(1), first);
        CHECK.due("12 tank(2) " + when, x.tank(2), second);
        CHECK.due("12 tank(3) " + when, x.tank(3), third);
    }

    private static void promise12WrongCalls() {
        HoistPlanner x = Lines.twoTanks();
        CHECK.throwsState("12 no plan", () -> x.tank(1));
        CHECK.throwsState("12 no plan and no tank", () -> x.tank(0));
        x.solve();
        for (int i : new int[] {Integer.MIN_VALUE, -1, 0, 3, 4, 5, 6, Integer.MAX_VALUE}) {
            CHECK.throwsArgument("12 tank(" + i + ")", () -> x.tank(i));
        }
    }

    private static void promise13State() {
        HoistPlanner x = Lines.solved(Lines.twoTanks());
        checkState(x, 0, 0, 0, 0, 0, -1, 1, 0);
        checkState(x, 1, 1, 1, 0, 1, 0, 0, 0);
        checkState(x, 11, 12, 1, 0, 1, 0, 0, 0);
        checkState(x, 1, 13, 1, 0, 0, -1, 0, 0);
        checkState(x, 29, 42, 1, 0, 0, -1, 0, 0);
        checkState(x, 1, 43, 1, 0, 1, 1, 0, 0);
        checkState(x, 28, 71, 1, 0, 0, -1, 0, 0);
        checkState(x, 1, 72, 1, 0, 1, 2, 0, 0);
        checkState(x, 10, 82, 1, 0, 1, 2, 0, 0);
        checkState(x, 1, 83, 1, 1, 0, -1, 1, 82);
        checkState(x, 12, 95, 1, 1, 0, -1, 1, 82);
        checkState(x, 1, 96, 2, 1, 2, 0, 0, 82);
    }

    private static void checkState(HoistPlanner x, int seconds, int... due) {
        x.run(seconds);
        for (int what = 0; what <= 6; what++) {
            CHECK.due("13 state(" + what + ") at " + due[0], x.state(what), due[what]);
        }
    }

    private static void promise13Stay() {
        HoistPlanner x = Lines.solved(Lines.threeTanks());
        x.run(190);
        CHECK.due("13 none was done", x.state(6), 0);
        x.run(1);
        CHECK.due("13 the stay", x.state(6), 190);
        x.run(2000);
        CHECK.due("13 the stay of a later one", x.state(6), 190);
        x.stop(true);
        x.run(1000);
        CHECK.due("13 the stay is kept when drained", x.state(6), 190);
        CHECK.due("13 all are done", x.state(2), x.state(1));
    }

    private static void promise13WrongCalls() {
        HoistPlanner x = new HoistPlanner();
        CHECK.throwsState("13 no plan", () -> x.state(0));
        CHECK.throwsState("13 no plan and no what", () -> x.state(7));
        x.solve();
        for (int what : new int[] {Integer.MIN_VALUE, -1, 7, 8, Integer.MAX_VALUE}) {
            CHECK.throwsArgument("13 state(" + what + ")", () -> x.state(what));
        }
    }
}
