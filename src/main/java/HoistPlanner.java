import java.util.Arrays;

/**
 * A planner for a plating line with one hoist: the order of moves and their times with the least
 * cycle, and the line run by them from empty until it is drained.
 */
public final class HoistPlanner {
    /** There is none. */
    public static final int NONE = -1;

    private static final int MOST_TANKS = 5;
    private static final int MOST_MOVES = MOST_TANKS + 1;
    private static final int MOST_PLACES = MOST_TANKS + 2;
    private static final int MOST_ORDERS = 120;
    /** One rule behind each move of the order, and two for the soak of each tank. */
    private static final int MOST_RULES = MOST_MOVES + 2 * MOST_TANKS;

    private static final int LONGEST_SOAK = 500;
    private static final int LONGEST_WAY = 100;
    private static final int LONGEST_CYCLE = 2000;
    private static final int LONGEST_RUN = 5000;

    private static final int FIRST_LOADED = 10;

    private final Layout layout;
    private final Order tried;
    private final Timing timing;
    private final Plan found;
    private final Works works;
    private boolean planned;

    /** One tank, low 0 and high 500; loaded 10, empty 0; no plan. */
    public HoistPlanner() {
        layout = new Layout();
        tried = new Order();
        timing = new Timing(layout);
        found = new Plan();
        works = new Works(layout, found);
        planned = false;
    }

    /** A line of n tanks, all data as at first; no plan. */
    public void line(int n) throws IllegalArgumentException {
        require(isWithin(n, 1, MOST_TANKS));
        layout.reset(n);
        planned = false;
    }

    /** The soak of a tank; no plan then. */
    public void soak(int tank, int low, int high) throws IllegalArgumentException {
        require(layout.hasTank(tank));
        require(0 <= low && low <= high && high <= LONGEST_SOAK);
        layout.low[tank] = low;
        layout.high[tank] = high;
        planned = false;
    }

    /** Loaded seconds of a move; no plan then. */
    public void loaded(int move, int seconds) throws IllegalArgumentException {
        require(layout.hasMove(move));
        require(isWithin(seconds, 1, LONGEST_WAY));
        layout.loadedSeconds[move] = seconds;
        planned = false;
    }

    /** Empty seconds from a place to another one; no plan then. */
    public void empty(int from, int to, int seconds) throws IllegalArgumentException {
        require(layout.hasPlace(from) && layout.hasPlace(to) && from != to);
        require(isWithin(seconds, 0, LONGEST_WAY));
        layout.emptySeconds[from][to] = seconds;
        planned = false;
    }

    /** 0, or what isn't ready. */
    public int ready() {
        return layout.fault();
    }

    /** Solves: the least T, and the line empty at second 0; NONE, and no plan, if no order has one. */
    public int solve() throws IllegalStateException {
        requireReady();
        int cycle = findPlan();
        planned = cycle != NONE;
        works.reset();
        return cycle;
    }

    /** The least T of the order with these digits; NONE if it has none. */
    public int least(int order) throws IllegalStateException, IllegalArgumentException {
        requireReady();
        require(tried.read(order, layout.tanks));
        return timing.leastCycle(tried, LONGEST_CYCLE);
    }

    /** Of the plan: the k-th move from 0 on (0), a move's time (1), a soak (2), T (3), its order (4). */
    public int plan(int k, int what) throws IllegalStateException, IllegalArgumentException {
        requirePlan();
        switch (what) {
            case 0:
                require(layout.hasMove(k));
                return found.order.moves[k];
            case 1:
                require(layout.hasMove(k));
                return found.times[k];
            case 2:
                require(layout.hasTank(k));
                return found.soakSeconds(k, layout);
            case 3:
                return found.cycle;
            case 4:
                return found.order.number();
            default:
                throw new IllegalArgumentException();
        }
    }

    /** The line runs for so many seconds: how many moves were begun. */
    public int run(int seconds) throws IllegalStateException, IllegalArgumentException {
        requirePlan();
        require(isWithin(seconds, 0, LONGEST_RUN));
        int begun = 0;
        for (int k = 0; k < seconds; k++) {
            if (works.passSecond()) {
                begun++;
            }
        }
        return begun;
    }

    /** No further carrier enters, or they may again. */
    public void stop(boolean stopped) throws IllegalStateException {
        requirePlan();
        works.entryStopped = stopped;
    }

    /** The carrier in a tank, 0 if there is none. */
    public int tank(int i) throws IllegalStateException, IllegalArgumentException {
        requirePlan();
        require(layout.hasTank(i));
        return works.carriers[i];
    }

    /** The second (0), entered (1), done (2), the hoist's carrier (3) and move (4), drained (5), last stay (6). */
    public int state(int what) throws IllegalStateException, IllegalArgumentException {
        requirePlan();
        switch (what) {
            case 0:
                return works.second;
            case 1:
                return works.entered;
            case 2:
                return works.done;
            case 3:
                return works.hoistCarrier;
            case 4:
                return works.hoistMove;
            case 5:
                return works.isDrained() ? 1 : 0;
            case 6:
                return works.lastStay;
            default:
                throw new IllegalArgumentException();
        }
    }

    private static boolean isWithin(int value, int least, int most) {
        return least <= value && value <= most;
    }

    private static void require(boolean rightArgument) {
        if (!rightArgument) {
            throw new IllegalArgumentException();
        }
    }

    private void requireReady() {
        if (layout.fault() != 0) {
            throw new IllegalStateException();
        }
    }

    private void requirePlan() {
        if (!planned) {
            throw new IllegalStateException();
        }
    }

    /** A later order is kept only if it beats the earlier ones, so of equal ones the first stays. */
    private int findPlan() {
        int best = NONE;
        int limit = LONGEST_CYCLE;
        tried.toFirst(layout.tanks);
        for (int k = 0; k < MOST_ORDERS; k++) {
            int cycle = timing.leastCycle(tried, limit);
            if (cycle != NONE) {
                found.keep(tried, timing.times, cycle);
                best = cycle;
                limit = cycle - 1;
            }
            if (!tried.toNext()) {
                break;
            }
        }
        return best;
    }

    /** The data of the line. */
    private static final class Layout {
        int tanks;
        final int[] low = new int[MOST_TANKS + 1];
        final int[] high = new int[MOST_TANKS + 1];
        final int[] loadedSeconds = new int[MOST_MOVES];
        final int[][] emptySeconds = new int[MOST_PLACES][MOST_PLACES];

        Layout() {
            reset(1);
        }

        void reset(int n) {
            tanks = n;
            Arrays.fill(low, 0);
            Arrays.fill(high, LONGEST_SOAK);
            Arrays.fill(loadedSeconds, FIRST_LOADED);
            for (int x = 0; x < MOST_PLACES; x++) {
                Arrays.fill(emptySeconds[x], 0);
            }
        }

        boolean hasTank(int i) {
            return 1 <= i && i <= tanks;
        }

        boolean hasMove(int i) {
            return 0 <= i && i <= tanks;
        }

        boolean hasPlace(int i) {
            return 0 <= i && i <= tanks + 1;
        }

        int fault() {
            int slow = slowEmptyWay();
            return slow != 0 ? slow : roundaboutWay();
        }

        private int slowEmptyWay() {
            for (int i = 0; i <= tanks; i++) {
                if (emptySeconds[i][i + 1] > loadedSeconds[i]) {
                    return 1 + i;
                }
            }
            return 0;
        }

        /** No place is above 6, so the first one found has the least number. */
        private int roundaboutWay() {
            for (int x = 0; x <= tanks + 1; x++) {
                for (int y = 0; y <= tanks + 1; y++) {
                    for (int z = 0; z <= tanks + 1; z++) {
                        if (emptySeconds[x][z] > emptySeconds[x][y] + emptySeconds[y][z]) {
                            return 100 + 49 * x + 7 * y + z;
                        }
                    }
                }
            }
            return 0;
        }
    }

    /** An order of all moves, move 0 first. */
    private static final class Order {
        int count;
        final int[] moves = new int[MOST_MOVES];
        final int[] rank = new int[MOST_MOVES];

        void toFirst(int tanks) {
            count = tanks + 1;
            for (int k = 0; k < count; k++) {
                moves[k] = k;
            }
            rankMoves();
        }

        /** Goes to the order with the next number; false, with nothing changed, if this is the last one. */
        boolean toNext() {
            int pivot = count - 2;
            while (pivot >= 1 && moves[pivot] > moves[pivot + 1]) {
                pivot--;
            }
            if (pivot < 1) {
                return false;
            }
            int other = count - 1;
            while (other > pivot + 1 && moves[other] < moves[pivot]) {
                other--;
            }
            swap(pivot, other);
            reverseFrom(pivot + 1);
            rankMoves();
            return true;
        }

        /** Reads the order from its digits; false if they aren't one. */
        boolean read(int number, int tanks) {
            count = tanks + 1;
            Arrays.fill(rank, 0);
            int rest = number;
            for (int k = tanks; k >= 1; k--) {
                int move = rest % 10;
                if (move < 1 || move > tanks || rank[move] != 0) {
                    return false;
                }
                moves[k] = move;
                rank[move] = k;
                rest /= 10;
            }
            moves[0] = 0;
            return rest == 0;
        }

        int number() {
            int number = 0;
            for (int k = 1; k < count; k++) {
                number = 10 * number + moves[k];
            }
            return number;
        }

        /** How often a soak goes over the cycle's end: once if its tank is emptied ahead of being filled. */
        int soakTurns(int tank) {
            return rank[tank] < rank[tank - 1] ? 1 : 0;
        }

        void copyFrom(Order other) {
            count = other.count;
            System.arraycopy(other.moves, 0, moves, 0, MOST_MOVES);
            System.arraycopy(other.rank, 0, rank, 0, MOST_MOVES);
        }

        private void swap(int k, int m) {
            int move = moves[k];
            moves[k] = moves[m];
            moves[m] = move;
        }

        private void reverseFrom(int start) {
            int end = count - 1;
            for (int k = start; k < end; k++) {
                swap(k, end);
                end--;
            }
        }

        private void rankMoves() {
            for (int k = 0; k < count; k++) {
                rank[moves[k]] = k;
            }
        }
    }

    /**
     * The least T of an order and its least times. Each rule of a plan is of the form: t of move
     * after is at least t of move before, seconds, and turns times T. Times that keep all rules exist
     * unless a ring of rules adds up to more than 0, and such a ring tells how much more T must be.
     */
    private static final class Timing {
        private final Layout layout;
        private int rules;
        private final int[] before = new int[MOST_RULES];
        private final int[] after = new int[MOST_RULES];
        private final int[] seconds = new int[MOST_RULES];
        private final int[] turns = new int[MOST_RULES];
        /** The rule that set each move's time last. */
        private final int[] cause = new int[MOST_MOVES];
        final int[] times = new int[MOST_MOVES];

        Timing(Layout layout) {
            this.layout = layout;
        }

        /** The least T up to a limit; NONE if there is none. The times are those of that T. */
        int leastCycle(Order order, int limit) {
            rules = 0;
            int cycle = addWays(order);
            if (cycle > limit) {
                return NONE;
            }
            addSoaks(order);
            // Each try that fails gives a greater cycle, so there are no more tries than cycles.
            for (int tries = 0; tries < LONGEST_CYCLE && cycle <= limit; tries++) {
                int unsettled = settleTimes(order.count, cycle);
                if (unsettled == NONE) {
                    return cycle;
                }
                cycle = cycleThatBreaksRing(order.count, unsettled);
            }
            return NONE;
        }

        /** The rules from each move to the one behind it; answers what one round of the hoist takes. */
        private int addWays(Order order) {
            int round = 0;
            for (int k = 0; k < order.count; k++) {
                boolean isLast = k == order.count - 1;
                int first = order.moves[k];
                int second = isLast ? 0 : order.moves[k + 1];
                int way = layout.loadedSeconds[first] + layout.emptySeconds[first + 1][second];
                addRule(first, second, way, isLast ? -1 : 0);
                round += way;
            }
            return round;
        }

        private void addSoaks(Order order) {
            for (int tank = 1; tank < order.count; tank++) {
                int carried = layout.loadedSeconds[tank - 1];
                int over = order.soakTurns(tank);
                addRule(tank - 1, tank, carried + layout.low[tank], -over);
                addRule(tank, tank - 1, -carried - layout.high[tank], over);
            }
        }

        private void addRule(int first, int second, int least, int cycles) {
            before[rules] = first;
            after[rules] = second;
            seconds[rules] = least;
            turns[rules] = cycles;
            rules++;
        }

        /**
         * Raises the times from 0 until all rules are kept; NONE then. If a round for each move isn't
         * enough, there is a ring of rules that no times keep: a move whose time still rose.
         */
        private int settleTimes(int moves, int cycle) {
            Arrays.fill(times, 0);
            for (int round = 0; round < moves; round++) {
                int raised = raiseTimes(cycle);
                if (raised == NONE) {
                    return NONE;
                }
                if (round == moves - 1) {
                    return raised;
                }
            }
            return NONE;
        }

        private int raiseTimes(int cycle) {
            int raised = NONE;
            for (int r = 0; r < rules; r++) {
                int due = times[before[r]] + seconds[r] + turns[r] * cycle;
                int move = after[r];
                if (times[move] < due) {
                    times[move] = due;
                    cause[move] = r;
                    raised = move;
                }
            }
            return raised;
        }

        /** The least T with which the ring behind an unsettled move adds up to no more than 0. */
        private int cycleThatBreaksRing(int moves, int unsettled) {
            int start = moveOnRing(moves, unsettled);
            int ringSeconds = 0;
            int ringTurns = 0;
            int move = start;
            for (int k = 0; k < moves; k++) {
                int rule = cause[move];
                ringSeconds += seconds[rule];
                ringTurns += turns[rule];
                move = before[rule];
                if (move == start) {
                    break;
                }
            }
            if (ringTurns >= 0) {
                // A greater T makes this ring no better.
                return LONGEST_CYCLE + 1;
            }
            int shared = -ringTurns;
            return (ringSeconds + shared - 1) / shared;
        }

        /** So many steps back as there are moves end on the ring, wherever they began. */
        private int moveOnRing(int moves, int unsettled) {
            int move = unsettled;
            for (int k = 0; k < moves; k++) {
                move = before[cause[move]];
            }
            return move;
        }
    }

    /** An order with its T and times. */
    private static final class Plan {
        final Order order = new Order();
        final int[] times = new int[MOST_MOVES];
        int cycle;

        void keep(Order kept, int[] keptTimes, int keptCycle) {
            order.copyFrom(kept);
            System.arraycopy(keptTimes, 0, times, 0, MOST_MOVES);
            cycle = keptCycle;
        }

        int soakSeconds(int tank, Layout layout) {
            int arrival = times[tank - 1] + layout.loadedSeconds[tank - 1];
            return times[tank] + order.soakTurns(tank) * cycle - arrival;
        }
    }

    /** The line as it is run by a plan. */
    private static final class Works {
        private final Layout layout;
        private final Plan plan;
        int second;
        /** The second within the cycle, and the rank of the move that begins next. */
        private int cycleSecond;
        private int nextRank;
        boolean entryStopped;
        int entered;
        int done;
        int lastStay;
        int hoistCarrier;
        int hoistMove;
        private int hoistEntry;
        private int hoistEnd;
        /** The carrier in each tank, 0 for none, and the second in which it entered the line. */
        final int[] carriers = new int[MOST_TANKS + 1];
        private final int[] entries = new int[MOST_TANKS + 1];

        Works(Layout layout, Plan plan) {
            this.layout = layout;
            this.plan = plan;
            reset();
        }

        void reset() {
            second = 0;
            cycleSecond = 0;
            nextRank = 0;
            entryStopped = false;
            entered = 0;
            done = 0;
            lastStay = 0;
            hoistEntry = 0;
            hoistEnd = 0;
            freeHoist();
            Arrays.fill(carriers, 0);
            Arrays.fill(entries, 0);
        }

        /** One second of the line: whether a move was begun in it. */
        boolean passSecond() {
            if (hoistMove != NONE && hoistEnd == second) {
                endMove();
            }
            boolean begun = false;
            int move = plan.order.moves[nextRank];
            if (plan.times[move] == cycleSecond) {
                begun = beginMove(move);
                nextRank = nextRank == layout.tanks ? 0 : nextRank + 1;
            }
            second++;
            cycleSecond = cycleSecond + 1 == plan.cycle ? 0 : cycleSecond + 1;
            return begun;
        }

        boolean isDrained() {
            for (int i = 1; i <= layout.tanks; i++) {
                if (carriers[i] != 0) {
                    return false;
                }
            }
            return hoistCarrier == 0;
        }

        private void endMove() {
            if (hoistMove == layout.tanks) {
                done++;
                lastStay = second - hoistEntry;
            } else {
                carriers[hoistMove + 1] = hoistCarrier;
                entries[hoistMove + 1] = hoistEntry;
            }
            freeHoist();
        }

        private boolean beginMove(int move) {
            boolean taken = move == 0 ? takeNext() : takeFromTank(move);
            if (taken) {
                hoistMove = move;
                hoistEnd = second + layout.loadedSeconds[move];
            }
            return taken;
        }

        private boolean takeNext() {
            if (entryStopped) {
                return false;
            }
            entered++;
            hoistCarrier = entered;
            hoistEntry = second;
            return true;
        }

        private boolean takeFromTank(int tank) {
            if (carriers[tank] == 0) {
                return false;
            }
            hoistCarrier = carriers[tank];
            hoistEntry = entries[tank];
            carriers[tank] = 0;
            return true;
        }

        private void freeHoist() {
            hoistCarrier = 0;
            hoistMove = NONE;
        }
    }
}
