import java.util.function.Consumer;
import java.util.function.Supplier;

/**
 * Makes a call that is to be refused on one of two like objects: the exception must be the right one, and
 * the two must answer alike then and later ("A call that throws changes nothing.").
 */
final class Refusals {
    private final Check check;
    private final int n;
    private final Supplier<HoistPlanner> maker;

    Refusals(Check check, int n, Supplier<HoistPlanner> maker) {
        this.check = check;
        this.n = n;
        this.maker = maker;
    }

    void argument(String what, Consumer<HoistPlanner> call) {
        refused(what, Check.ARGUMENT, call);
    }

    void state(String what, Consumer<HoistPlanner> call) {
        refused(what, Check.STATE, call);
    }

    private void refused(String what, String exception, Consumer<HoistPlanner> call) {
        HoistPlanner x = maker.get();
        HoistPlanner twin = maker.get();
        check.dueText(what + " throws", Check.thrownBy(() -> call.accept(x)), exception);
        check.dueText(what + " and changes nothing:", Answers.of(x, n), Answers.of(twin, n));
        check.dueText(what + " and changes nothing later:", later(x), later(twin));
    }

    /** Whether entry is stopped, and what the hoist and its carrier are about, is seen only when the line goes on. */
    private String later(HoistPlanner x) {
        StringBuilder text = new StringBuilder();
        for (int seconds : new int[] {1, 37, 240}) {
            Answers.add(text, "run", () -> x.run(seconds));
            text.append(Answers.ofLine(x, n));
        }
        Answers.add(text, "solve", x::solve);
        Answers.add(text, "run", () -> x.run(300));
        return text + Answers.ofPlan(x, n) + Answers.ofLine(x, n);
    }
}
