/** A run of calls on one new store; prints every answer that is not due and counts them. */
final class Run {
    static final String ARGUMENT = "throws.IllegalArgumentException";
    static final String STATE = "throws.IllegalStateException";
    static final String INDEX = "throws.IndexOutOfBoundsException";

    private static int wrong = 0;

    private final OnceStore store = new OnceStore();
    private final String title;

    Run(String title) {
        this.title = title;
    }

    Run due(Object want, String name, int... args) {
        String got = Calls.answer(store, name, args);
        if (!got.equals(want.toString())) {
            report(title + ": " + Calls.text(name, args) + " answered " + got + ", due is " + want);
        }
        return this;
    }

    /** Makes a call that only prepares, whatever it answers. */
    Run call(String name, int... args) {
        Calls.answer(store, name, args);
        return this;
    }

    /** Checks all cells of a word (0), tag (1) or line (2) at once, the lowest cell being bit 0. */
    Run dueCells(long want, int what, int which) {
        int width = what == 0 ? 24 : what == 1 ? 8 : 32;
        for (int bit = 0; bit < width; bit++) {
            due(want >> bit & 1, "cell", what, which, bit);
        }
        return this;
    }

    static void report(String fault) {
        wrong++;
        System.out.println(fault);
    }

    static void end() {
        System.out.println(wrong == 0 ? "all answers are as due" : wrong + " answers are not as due");
        if (wrong != 0) {
            System.exit(1);
        }
    }
}
