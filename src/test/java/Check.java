/** Counts and prints the answers that are not as due; a test ends with its exit code. */
final class Check {
    static final String STATE = "IllegalStateException";
    static final String ARGUMENT = "IllegalArgumentException";
    static final String NOTHING = "nothing";

    interface Call {
        void make();
    }

    private int wrong = 0;
    private int asked = 0;

    void due(String what, long got, long want) {
        asked++;
        if (got != want) {
            wrong++;
            System.out.println(what + " answered " + got + ", due is " + want);
        }
    }

    void dueText(String what, String got, String want) {
        asked++;
        if (!got.equals(want)) {
            wrong++;
            System.out.println(what + " answered " + got + ", due is " + want);
        }
    }

    void throwsState(String what, Call call) {
        dueText(what + " throws", thrownBy(call), STATE);
    }

    void throwsArgument(String what, Call call) {
        dueText(what + " throws", thrownBy(call), ARGUMENT);
    }

    static String thrownBy(Call call) {
        try {
            call.make();
            return NOTHING;
        } catch (RuntimeException e) {
            return e.getClass().getSimpleName();
        }
    }

    void end() {
        System.out.println(asked + " answers, " + wrong + " of them wrong");
        if (wrong != 0 || asked == 0) {
            System.exit(1);
        }
    }
}
