import java.util.ArrayList;
import java.util.List;

/**
 * The document as a program, sentence by sentence and with no thought of speed: the data and the plan are those of
 * the reference, the line is run by looking at every move in every second.
 */
final class PlainPlanner {
    private static final int NONE = -1;
    private static final int ON_HOIST = -1;
    private static final int DONE = -2;

    /** A carrier, numbered by its place in the list. */
    private static final class Carrier {
        final int entry;
        int place = ON_HOIST;

        Carrier(int entry) {
            this.entry = entry;
        }
    }

    private Reference data = Reference.of(1);
    private boolean planned = false;
    private List<Carrier> carriers;
    private boolean stopped;
    private int second;
    private int done;
    private int lastTook;
    private int goingMove;
    private int goingUntil;

    void line(int n) {
        argument(n >= 1 && n <= 5);
        data = Reference.of(n);
        planned = false;
    }

    void soak(int tank, int low, int high) {
        argument(tank >= 1 && tank <= data.n);
        argument(low >= 0 && low <= 500 && high >= 0 && high <= 500 && low <= high);
        data.low[tank] = low;
        data.high[tank] = high;
        planned = false;
    }

    void loaded(int move, int seconds) {
        argument(move >= 0 && move <= data.n);
        argument(seconds >= 1 && seconds <= 100);
        data.loaded[move] = seconds;
        planned = false;
    }

    void empty(int from, int to, int seconds) {
        argument(from >= 0 && from <= data.n + 1);
        argument(to >= 0 && to <= data.n + 1);
        argument(from != to);
        argument(seconds >= 0 && seconds <= 100);
        data.empty[from][to] = seconds;
        planned = false;
    }

    int ready() {
        return data.ready();
    }

    int solve() {
        state(data.ready() == 0);
        int cycle = data.solve();
        planned = cycle != NONE;
        carriers = new ArrayList<>();
        stopped = false;
        second = 0;
        done = 0;
        lastTook = 0;
        goingMove = NONE;
        return cycle;
    }

    int least(int order) {
        state(data.ready() == 0);
        argument(data.isOrder(order));
        return data.least(order);
    }

    int plan(int k, int what) {
        state(planned);
        argument(what >= 0 && what <= 4);
        if (what == 3) {
            return data.cycle;
        }
        if (what == 4) {
            return data.order;
        }
        argument(k >= (what == 2 ? 1 : 0) && k <= data.n);
        if (what == 0) {
            return ("0" + data.order).charAt(k) - '0';
        }
        return what == 1 ? data.times[k] : data.soak(k);
    }

    int run(int seconds) {
        state(planned);
        argument(seconds >= 0 && seconds <= 5000);
        int begun = 0;
        for (int k = 0; k < seconds; k++) {
            endMove();
            for (int move = 0; move <= data.n; move++) {
                if (data.times[move] == second % data.cycle && beginMove(move)) {
                    begun++;
                }
            }
            second++;
        }
        return begun;
    }

    private void endMove() {
        if (goingMove == NONE || goingUntil != second) {
            return;
        }
        Carrier carried = carriers.get(carrierAt(ON_HOIST) - 1);
        if (goingMove == data.n) {
            carried.place = DONE;
            done++;
            lastTook = second - carried.entry;
        } else {
            carried.place = goingMove + 1;
        }
        goingMove = NONE;
    }

    private boolean beginMove(int move) {
        if (move == 0 ? stopped : carrierAt(move) == 0) {
            return false;
        }
        if (goingMove != NONE) {
            throw new AssertionError("a move begins while another one goes on");
        }
        if (move == 0) {
            carriers.add(new Carrier(second));
        } else {
            carriers.get(carrierAt(move) - 1).place = ON_HOIST;
        }
        goingMove = move;
        goingUntil = second + data.loaded[move];
        return true;
    }

    /** The number of the carrier in a place, 0 if there is none. */
    private int carrierAt(int place) {
        int found = 0;
        for (int number = 1; number <= carriers.size(); number++) {
            if (carriers.get(number - 1).place == place) {
                if (found != 0) {
                    throw new AssertionError("two carriers in one place");
                }
                found = number;
            }
        }
        return found;
    }

    void stop(boolean noMore) {
        state(planned);
        stopped = noMore;
    }

    int tank(int i) {
        state(planned);
        argument(i >= 1 && i <= data.n);
        return carrierAt(i);
    }

    int state(int what) {
        state(planned);
        argument(what >= 0 && what <= 6);
        int[] answers = {second, carriers.size(), done, carrierAt(ON_HOIST), goingMove, isDrained() ? 1 : 0, lastTook};
        return answers[what];
    }

    private boolean isDrained() {
        for (Carrier carrier : carriers) {
            if (carrier.place != DONE) {
                return false;
            }
        }
        return true;
    }

    private static void argument(boolean isRight) {
        if (!isRight) {
            throw new IllegalArgumentException();
        }
    }

    private static void state(boolean isRight) {
        if (!isRight) {
            throw new IllegalStateException();
        }
    }
}
