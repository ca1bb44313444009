import java.util.function.IntSupplier;

/** What an object answers, refusals too, as one text; to ask for it changes nothing in the object. */
final class Answers {
    private Answers() {
    }

    /** Some 150 calls for five tanks, so an object can be asked for it three times. */
    static String of(HoistPlanner x, int n) {
        return ofData(x, n) + ofPlan(x, n) + ofLine(x, n);
    }

    static String ofData(HoistPlanner x, int n) {
        StringBuilder text = new StringBuilder();
        add(text, "ready", x::ready);
        for (int order : Lines.orders(n)) {
            add(text, "least(" + order + ")", () -> x.least(order));
        }
        return text.toString();
    }

    static String ofPlan(HoistPlanner x, int n) {
        StringBuilder text = new StringBuilder();
        add(text, "T", () -> x.plan(0, 3));
        add(text, "order", () -> x.plan(0, 4));
        for (int k = 0; k <= n; k++) {
            int asked = k;
            for (int what = 0; what <= 2; what++) {
                int kind = what;
                add(text, "plan(" + k + ", " + what + ")", () -> x.plan(asked, kind));
            }
        }
        return text.toString();
    }

    static String ofLine(HoistPlanner x, int n) {
        StringBuilder text = new StringBuilder();
        for (int i = 1; i <= n; i++) {
            int asked = i;
            add(text, "tank(" + i + ")", () -> x.tank(asked));
        }
        for (int what = 0; what <= 6; what++) {
            int asked = what;
            add(text, "state(" + what + ")", () -> x.state(asked));
        }
        return text.toString();
    }

    static void add(StringBuilder text, String call, IntSupplier answer) {
        text.append(call).append(' ');
        try {
            text.append(answer.getAsInt());
        } catch (RuntimeException e) {
            text.append(e.getClass().getSimpleName());
        }
        text.append("; ");
    }
}
