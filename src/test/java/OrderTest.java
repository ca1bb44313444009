import java.util.HashSet;
import java.util.Set;

/**
 * Promise 8: "Its moves behind move 0 are the digits of a number, the first one highest"; "IllegalArgumentException
 * if it isn't an order." Every number with a digit more than an order has, and those far off.
 */
public final class OrderTest {
    private static final Check CHECK = new Check();
    /** An object is used for at most 512 calls. */
    private static final int CALLS = 500;
    private static HoistPlanner planner;
    private static int calls;

    public static void main(String[] args) {
        for (int n = 1; n <= 5; n++) {
            everyNumberWithADigitMore(n);
            numbersFarOff(n);
            digitsAreTheMoves(n);
        }
        theDocumentsExample();
        CHECK.end();
    }

    private static void everyNumberWithADigitMore(int n) {
        Set<Integer> orders = new HashSet<>(Lines.orders(n));
        int most = (int) Math.pow(10, n + 1);
        makePlanner(n);
        for (int number = -most / 10; number < most; number++) {
            isOrder(n, number, orders.contains(number));
        }
    }

    private static void numbersFarOff(int n) {
        makePlanner(n);
        for (int order : Lines.orders(n)) {
            isOrder(n, order, true);
            isOrder(n, -order, false);
            isOrder(n, 1_000_000_000 + order, false);
            isOrder(n, 2_147_400_000 + order, false);
            isOrder(n, Integer.MIN_VALUE + order, false);
        }
        isOrder(n, Integer.MAX_VALUE, false);
        isOrder(n, Integer.MIN_VALUE, false);
    }

    private static void isOrder(int n, int number, boolean due) {
        if (calls == CALLS) {
            makePlanner(n);
        }
        calls++;
        String thrown = Check.thrownBy(() -> planner.least(number));
        CHECK.dueText("least(" + number + ") of " + n + " throws", thrown, due ? Check.NOTHING : Check.ARGUMENT);
    }

    private static void makePlanner(int n) {
        planner = new HoistPlanner();
        planner.line(n);
        calls = 1;
    }

    /** The hoist never waits for a soak here, so T is its round: it tells which moves are behind one another. */
    private static void digitsAreTheMoves(int n) {
        HoistPlanner x = new HoistPlanner();
        x.line(n);
        for (int i = 0; i <= n; i++) {
            x.loaded(i, 40);
        }
        for (int from = 0; from <= n + 1; from++) {
            for (int to = 0; to <= n + 1; to++) {
                if (from != to) {
                    x.empty(from, to, way(from, to));
                }
            }
        }
        CHECK.due("ready", x.ready(), 0);
        for (int order : Lines.orders(n)) {
            CHECK.due("least(" + order + ")", x.least(order), round(n, order));
        }
    }

    /** From 20 to 40 seconds, so that no way is shorter by another place. */
    private static int way(int from, int to) {
        return from == to ? 0 : 20 + (7 * from + 13 * to + 5 * from * to) % 21;
    }

    private static int round(int n, int order) {
        String moves = "0" + order + "0";
        int round = 0;
        for (int k = 0; k <= n; k++) {
            round += 40 + way(moves.charAt(k) - '0' + 1, moves.charAt(k + 1) - '0');
        }
        return round;
    }

    /** "(for three tanks 231: moves 0, 2, 3, 1)". */
    private static void theDocumentsExample() {
        HoistPlanner x = new HoistPlanner();
        x.line(3);
        x.soak(1, 20, 20);
        x.soak(2, 10, 10);
        x.soak(3, 0, 0);
        CHECK.due("least(231)", x.least(231), 40);
        CHECK.due("solve", x.solve(), 40);
        CHECK.due("the order", x.plan(0, 4), 231);
        int[] moves = {0, 2, 3, 1};
        for (int k = 0; k <= 3; k++) {
            CHECK.due("plan(" + k + ", 0)", x.plan(k, 0), moves[k]);
            CHECK.due("plan(" + moves[k] + ", 1)", x.plan(moves[k], 1), 10 * k);
        }
    }
}
