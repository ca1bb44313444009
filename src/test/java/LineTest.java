/**
 * Promises 10 to 13 and how the line is run: the second in which a move ends and the one in which a move begins,
 * the cycle's end, a move that is left out, entry that is stopped.
 */
public final class LineTest {
    private static final Check CHECK = new Check();
    private static final int NONE = HoistPlanner.NONE;

    public static void main(String[] args) {
        emptyAtFirst();
        for (int n = 1; n <= 5; n++) {
            firstCarrierGoesByThePlan(n);
            moveEndsAheadOfTheNextOne(n);
            eachTankHasItsOwnCarrier(n);
            noMoveIntoAnother(n);
            eachCarrierIsInOnePlace(n);
            fromEmptyUntilDrained(n);
        }
        runOfNoSeconds();
        longestRun();
        runGoesOnFromTheSecond();
        secondThatDidNotCome();
        cycleBeginsAgain();
        moveIsLeftOutAtFirst();
        moveIsLeftOutBehindAStop();
        stopInTheSecondOfAnEntry();
        stopLeavesThoseThatEntered();
        stopTwiceAndBack();
        nothingInTanksOrOnTheHoist();
        secondsOfTheLastOneDone();
        askingChangesNothing();
        CHECK.end();
    }

    /** "The LINE is run by a plan, from second 0 on, empty at first." */
    private static void emptyAtFirst() {
        for (int n = 1; n <= 5; n++) {
            HoistPlanner x = Lines.solved(Lines.tightLine(n));
            int[] due = {0, 0, 0, 0, NONE, 1, 0};
            checkState("at first", x, due);
            for (int i = 1; i <= n; i++) {
                CHECK.due("tank " + i + " at first", x.tank(i), 0);
            }
        }
    }

    private static void checkState(String when, HoistPlanner x, int... due) {
        for (int what = 0; what <= 6; what++) {
            CHECK.due("state(" + what + ") " + when, x.state(what), due[what]);
        }
    }

    /**
     * "the hoist is loaded until loaded i seconds later", "a move that ends then is ended: its carrier is in its
     * tank, or done behind the last move": the second before and the second itself, for each move.
     */
    private static void firstCarrierGoesByThePlan(int n) {
        HoistPlanner x = Lines.solved(Lines.tightLine(n));
        int begin = 0;
        for (int move = 0; move <= n; move++) {
            int end = begin + 15 + 2 * move;
            x.run(begin - x.state(0));
            CHECK.due("place " + move + " before the begin", move == 0 ? 1 : x.tank(move), 1);
            CHECK.due("begun at " + begin, x.run(1), 1);
            CHECK.due("place " + move + " behind it", move == 0 ? 0 : x.tank(move), 0);
            CHECK.due("the hoist's carrier", x.state(3), 1);
            CHECK.due("the hoist's move", x.state(4), move);
            x.run(end - x.state(0));
            CHECK.due("the hoist's move before the end", x.state(4), move);
            CHECK.due("none is done before the end", x.state(2), 0);
            x.run(1);
            CHECK.due("the hoist's carrier behind the end", x.state(3) == 1 ? 1 : 0, 0);
            CHECK.due("place " + (move + 1), move == n ? x.state(2) : x.tank(move + 1), 1);
            begin = move == n ? end : end + x.plan(move + 1, 2);
        }
        CHECK.due("how long it took", x.state(6), begin);
    }

    /** Soaks of 0: a carrier comes into its tank and is taken out of it in the same second. */
    private static void moveEndsAheadOfTheNextOne(int n) {
        HoistPlanner x = Lines.solved(Reference.of(n).allSoaks(0, 0).planner());
        CHECK.due("T", x.plan(0, 3), 10 * (n + 1));
        for (int move = 0; move <= n; move++) {
            CHECK.due("begun in second " + x.state(0), x.run(1), 1);
            CHECK.due("its move", x.state(4), move);
            for (int i = 1; i <= n; i++) {
                CHECK.due("tank " + i + " has none", x.tank(i), 0);
            }
            CHECK.due("nine seconds of the way", x.run(9), 0);
            CHECK.due("it goes on", x.state(4), move);
        }
        CHECK.due("none is done", x.state(2), 0);
        CHECK.due("the next one enters", x.run(1), 1);
        checkState("in the second T", x, 10 * (n + 1) + 1, 2, 1, 2, 0, 0, 10 * (n + 1));
    }

    /** Promise 12: each of tanks 1 .. n has a carrier of its own, as many as the line can hold. */
    private static void eachTankHasItsOwnCarrier(int n) {
        HoistPlanner x = Lines.solved(Reference.of(n).allSoaks(10 * n - 10, 10 * n - 10).planner());
        CHECK.due("T", x.plan(0, 3), 10 * n + 10);
        x.run(10 * n * n);
        CHECK.due("the last one is on the hoist", x.state(3), n);
        CHECK.due("not yet in tank 1", x.tank(1), 0);
        for (int i = 2; i <= n; i++) {
            CHECK.due("tank " + i + " of " + n, x.tank(i), n + 1 - i);
        }
        x.run(1);
        CHECK.due("the first one is on the hoist", x.state(3), 1);
        CHECK.due("no more in tank " + n, x.tank(n) == 1 ? 1 : 0, 0);
        CHECK.due("the last one is in tank 1", x.tank(1), n == 1 ? 0 : n);
    }

    /** "IllegalArgumentException if seconds are not 0 .. 5000.": 0 is allowed, and no second passes. */
    private static void runOfNoSeconds() {
        HoistPlanner x = Lines.solved(new HoistPlanner());
        for (int second = 0; second < 25; second++) {
            String before = Answers.ofLine(x, 1);
            CHECK.due("run(0) in second " + second, x.run(0), 0);
            CHECK.dueText("run(0) changes nothing", Answers.ofLine(x, 1), before);
            CHECK.due("run(1) in second " + second, x.run(1), second % 10 == 0 ? 1 : 0);
        }
    }

    private static void longestRun() {
        HoistPlanner x = Lines.solved(Reference.of(1).allLoaded(1).planner());
        CHECK.due("run(5000)", x.run(5000), 5000);
        checkState("behind run(5000)", x, 5000, 2500, 2499, 2500, 1, 0, 2);
        CHECK.due("run(4999)", x.run(4999), 4999);
        checkState("behind run(4999)", x, 9999, 5000, 4999, 5000, 0, 0, 2);
    }

    /** "from the one that state(0) tells on": it doesn't matter in which pieces the seconds pass. */
    private static void runGoesOnFromTheSecond() {
        for (int n = 1; n <= 5; n++) {
            HoistPlanner whole = Lines.solved(Lines.tightLine(n));
            HoistPlanner pieces = Lines.solved(Lines.tightLine(n));
            int begun = 0;
            for (int k = 0; k < 300; k++) {
                begun += pieces.run(k % 4);
            }
            CHECK.due("all seconds", pieces.state(0), 450);
            CHECK.due("all moves", begun, whole.run(450));
            CHECK.dueText("the line", Answers.ofLine(pieces, n), Answers.ofLine(whole, n));
        }
    }

    /** "(that which it tells then did not come yet: a move that ends then goes on)". */
    private static void secondThatDidNotCome() {
        HoistPlanner x = new HoistPlanner();
        x.soak(1, 5, 5);
        x.solve();
        x.run(10);
        checkState("before second 10", x, 10, 1, 0, 1, 0, 0, 0);
        CHECK.due("the tank before second 10", x.tank(1), 0);
        x.run(1);
        checkState("behind second 10", x, 11, 1, 0, 0, NONE, 0, 0);
        CHECK.due("the tank behind second 10", x.tank(1), 1);
        x.run(4);
        checkState("before second 15", x, 15, 1, 0, 0, NONE, 0, 0);
        CHECK.due("the tank before second 15", x.tank(1), 1);
        x.run(1);
        checkState("behind second 15", x, 16, 1, 0, 1, 1, 0, 0);
        CHECK.due("the tank behind second 15", x.tank(1), 0);
        x.run(9);
        checkState("before second 25", x, 25, 1, 0, 1, 1, 0, 0);
        x.run(1);
        checkState("behind second 25", x, 26, 2, 1, 2, 0, 0, 25);
    }

    /** "if a move i has t = second mod T": the last second of a cycle and the first one of the next. */
    private static void cycleBeginsAgain() {
        HoistPlanner x = new HoistPlanner();
        x.empty(2, 0, 7);
        x.empty(2, 1, 7);
        int cycle = x.solve();
        CHECK.due("T", cycle, 27);
        for (int k = 1; k <= 60; k++) {
            CHECK.due("move 0 in cycle " + k, x.run(1), 1);
            CHECK.due("the carrier's number", x.state(3), k);
            CHECK.due("move 1 in cycle " + k, x.run(10), 1);
            CHECK.due("no more in cycle " + k, x.run(16), 0);
            CHECK.due("done", x.state(2), k);
        }
    }

    /** "if there is none, the move is left out": it isn't counted, and the hoist stays where it is. */
    private static void moveIsLeftOutAtFirst() {
        HoistPlanner x = Lines.solved(Reference.of(5).allSoaks(40, 40).planner());
        CHECK.due("order", x.plan(0, 4), 54321);
        int[] begunInCycle = {2, 3, 4, 5, 6, 6};
        for (int k = 0; k < 6; k++) {
            CHECK.due("moves in cycle " + k, x.run(60), begunInCycle[k]);
        }
        HoistPlanner y = Lines.solved(Reference.of(5).allSoaks(40, 40).planner());
        y.run(11);
        checkState("while move 5 is left out", y, 11, 1, 0, 0, NONE, 0, 0);
        CHECK.due("the carrier stays in tank 1", y.tank(1), 1);
    }

    private static void moveIsLeftOutBehindAStop() {
        HoistPlanner x = Lines.solved(Reference.of(5).allSoaks(40, 40).planner());
        x.run(6 * 60);
        x.stop(true);
        int[] begunInCycle = {4, 3, 2, 1, 0, 0};
        for (int k = 0; k < 6; k++) {
            CHECK.due("moves in cycle " + k + " behind the stop", x.run(60), begunInCycle[k]);
        }
        CHECK.due("all that entered are done", x.state(2), 6);
        CHECK.due("no other entered", x.state(1), 6);
        CHECK.due("drained", x.state(5), 1);
    }

    /** "for move 0 the next one, numbered from 1 on, unless entry was stopped": no number is lost. */
    private static void stopInTheSecondOfAnEntry() {
        HoistPlanner x = Lines.solved(new HoistPlanner());
        x.stop(true);
        CHECK.due("stopped at second 0", x.run(1), 0);
        checkState("stopped at second 0", x, 1, 0, 0, 0, NONE, 1, 0);
        x.stop(false);
        CHECK.due("entry waits for the next cycle", x.run(19), 0);
        CHECK.due("the second 20", x.run(1), 1);
        checkState("in the second 20", x, 21, 1, 0, 1, 0, 0, 0);
        x.run(19);
        x.stop(true);
        CHECK.due("stopped at second 40", x.run(20), 0);
        checkState("none entered at 40", x, 60, 1, 1, 0, NONE, 1, 20);
        x.stop(false);
        CHECK.due("entry at second 60", x.run(1), 1);
        checkState("the next number at 60", x, 61, 2, 1, 2, 0, 0, 20);
    }

    /** "No further carrier enters": one that is on the hoist by move 0 has entered. */
    private static void stopLeavesThoseThatEntered() {
        HoistPlanner x = Lines.solved(new HoistPlanner());
        x.run(1);
        x.stop(true);
        CHECK.due("its other move is begun", x.run(5000), 1);
        checkState("it is done", x, 5001, 1, 1, 0, NONE, 1, 20);
    }

    private static void stopTwiceAndBack() {
        HoistPlanner x = Lines.solved(new HoistPlanner());
        x.stop(false);
        CHECK.due("stop(false) at first", x.run(20), 2);
        x.stop(true);
        x.stop(true);
        x.stop(false);
        CHECK.due("back again", x.run(20), 2);
        x.stop(false);
        x.stop(true);
        CHECK.due("the last one counts", x.run(20), 0);
        CHECK.due("entered", x.state(1), 2);
    }

    /** Promise 13: "5 whether nothing is in tanks or on the hoist (1 or 0)", for each tank and the hoist alone. */
    private static void nothingInTanksOrOnTheHoist() {
        HoistPlanner x = Lines.solved(Reference.of(5).allSoaks(100, 100).planner());
        x.run(1);
        x.stop(true);
        for (int move = 0; move <= 5; move++) {
            CHECK.due("move " + move, x.state(4), move);
            CHECK.due("on the hoist", x.state(5), 0);
            x.run(10);
            CHECK.due("the hoist is free", x.state(3), 0);
            if (move < 5) {
                CHECK.due("tank " + (move + 1), x.tank(move + 1), 1);
                CHECK.due("in a tank", x.state(5), 0);
                x.run(100);
            }
        }
        CHECK.due("done", x.state(2), 1);
        CHECK.due("nothing is left", x.state(5), 1);
    }

    /** Promise 13: "from its entry's begin to its end (0: none was)", told until the next one is done. */
    private static void secondsOfTheLastOneDone() {
        HoistPlanner x = Lines.solved(Reference.of(5).allSoaks(100, 100).planner());
        CHECK.due("none was", x.state(6), 0);
        x.run(560);
        CHECK.due("before the end", x.state(6), 0);
        x.run(1);
        CHECK.due("6 moves and 5 soaks", x.state(6), 560);
        x.run(3000);
        CHECK.due("a later one takes as long", x.state(6), 560);
        x.solve();
        CHECK.due("none again", x.state(6), 0);
    }

    /** Moves of 1 to 3 seconds, so that an object's 512 calls see several cycles. */
    private static Reference shortLine(int n) {
        Reference line = Reference.of(n).allEmpty(1).allSoaks(2, 9);
        for (int i = 0; i <= n; i++) {
            line.loaded[i] = 1 + i % 3;
        }
        return line;
    }

    /** "(By the plan a move never begins while another one goes on ..": each second of the first cycles. */
    private static void noMoveIntoAnother(int n) {
        Reference line = shortLine(n);
        HoistPlanner x = Lines.solved(line.planner());
        int cycle = x.plan(0, 3);
        int freeAt = 0;
        int begun = 0;
        for (int second = 0; second < 200; second++) {
            boolean begins = x.run(1) == 1;
            int move = x.state(4);
            CHECK.due("a move goes on in second " + second, move == NONE ? 0 : 1, begins || second < freeAt ? 1 : 0);
            if (begins && move != NONE) {
                CHECK.due("the hoist is free in second " + second, second >= freeAt ? 1 : 0, 1);
                CHECK.due("move " + move + " has that time", x.plan(move, 1), second % cycle);
                freeAt = second + line.loaded[move];
                begun++;
            }
        }
        CHECK.due("several cycles were seen", begun > 4 * (n + 1) ? 1 : 0, 1);
    }

    /** ".. nor finds a place taken.)": no carrier that entered is lost before it is done, and none is seen twice. */
    private static void eachCarrierIsInOnePlace(int n) {
        HoistPlanner x = Lines.solved(shortLine(n).planner());
        for (int k = 0; k < 40; k++) {
            x.run(3);
            int[] seen = new int[x.state(1) + 1];
            seen[x.state(3)]++;
            for (int i = 1; i <= n; i++) {
                seen[x.tank(i)]++;
            }
            int done = x.state(2);
            for (int carrier = 1; carrier < seen.length; carrier++) {
                CHECK.due("carrier " + carrier + " is in a place", seen[carrier], carrier <= done ? 0 : 1);
            }
        }
        CHECK.due("several are done", x.state(2) > 3 ? 1 : 0, 1);
    }

    /** ".. with the least cycle, and the line run by them from empty until it is drained." */
    private static void fromEmptyUntilDrained(int n) {
        HoistPlanner x = Lines.tightLine(n);
        int least = NONE;
        for (int order : Lines.orders(n)) {
            int cycle = x.least(order);
            least = cycle != NONE && (least == NONE || cycle < least) ? cycle : least;
        }
        CHECK.due("the least cycle", x.solve(), least);
        CHECK.due("empty at first", x.state(5), 1);
        int begun = x.run(9 * least + 1);
        CHECK.due("one carrier each cycle", x.state(1), 10);
        CHECK.due("not drained", x.state(5), 0);
        x.stop(true);
        begun += x.run(5000);
        CHECK.due("drained", x.state(5), 1);
        CHECK.due("all are done", x.state(2), 10);
        CHECK.due("each one by all moves", begun, 10 * (n + 1));
    }

    /** Promises 6, 8, 9, 12 and 13 tell, and nothing more: an object that is never asked runs alike. */
    private static void askingChangesNothing() {
        HoistPlanner asked = Lines.solved(Lines.tightLine(3));
        HoistPlanner unasked = Lines.solved(Lines.tightLine(3));
        for (int k = 0; k < 12; k++) {
            Answers.of(asked, 3);
            CHECK.due("moves begun", asked.run(30 + k), unasked.run(30 + k));
        }
        asked.stop(true);
        unasked.stop(true);
        CHECK.dueText("the same answers", Answers.of(asked, 3), Answers.of(unasked, 3));
        CHECK.due("moves until drained", asked.run(1000), unasked.run(1000));
        CHECK.dueText("the same end", Answers.ofLine(asked, 3), Answers.ofLine(unasked, 3));
    }
}
