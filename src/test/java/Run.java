import java.util.ArrayList;
import java.util.List;

/** A run of calls on one new store; prints every answer that is not due and counts them. */
final class Run {
    /** An object is used for so many calls; what later ones answer is free. */
    static final int CALLS = 512;

    static final String ARGUMENT = "throws.IllegalArgumentException";
    static final String STATE = "throws.IllegalStateException";
    static final String INDEX = "throws.IndexOutOfBoundsException";

    private static int wrong = 0;

    private final OnceStore store = new OnceStore();
    private final List<Call> made = new ArrayList<>();
    private final String title;
    private List<String> image = null;

    Run(String title) {
        this.title = title;
    }

    Run due(Object want, String name, int... args) {
        String got = make(new Call(name, args));
        if (!got.equals(want.toString())) {
            report(title + ": " + new Call(name, args).text() + " answered " + got + ", due is " + want);
        }
        image = null;
        return this;
    }

    /** Makes a call that only prepares, whatever it answers. */
    Run call(String name, int... args) {
        make(new Call(name, args));
        image = null;
        return this;
    }

    /** The answer is due, and the call leaves all as it was. */
    Run dueAndNothingElse(Object want, String name, int... args) {
        List<String> before = image();
        due(want, name, args);
        List<String> after = image();
        if (!after.equals(before)) {
            report(title + ": " + new Call(name, args).text() + " changed " + difference(before, after));
        }
        return this;
    }

    Run dueNotRefused(String name, int... args) {
        String got = make(new Call(name, args));
        if (got.startsWith("throws.")) {
            report(title + ": " + new Call(name, args).text() + " answered " + got + ", and is not to be refused");
        }
        image = null;
        return this;
    }

    /** Checks all cells of a word (0), tag (1) or line (2) at once, the lowest cell being bit 0. */
    Run dueCells(long want, int what, int which) {
        long got = Image.row(Image.after(made), what, which);
        if (made.size() + Image.WIDTHS[what] > CALLS) {
            report(title + ": no calls are left to look at cells");
        }
        if (got != want) {
            report(title + ": row " + which + " of kind " + what + " is " + Long.toHexString(got)
                    + ", due is " + Long.toHexString(want));
        }
        return this;
    }

    /** The rows that have a set cell, as Image names them. */
    List<String> cells() {
        return Image.cells(made);
    }

    Run stageMany(int first, int count, int value) {
        for (int key = first; key < first + count; key++) {
            call("stage", key, value);
        }
        return this;
    }

    private String make(Call call) {
        made.add(call);
        if (made.size() == CALLS + 1) {
            report(title + ": more than " + CALLS + " calls");
        }
        return call.on(store);
    }

    private List<String> image() {
        if (image == null) {
            image = Image.of(made);
        }
        return image;
    }

    private static String difference(List<String> before, List<String> after) {
        List<String> gone = new ArrayList<>(before);
        List<String> come = new ArrayList<>(after);
        gone.removeAll(after);
        come.removeAll(before);
        return gone + " to " + come;
    }

    static void report(String fault) {
        wrong++;
        System.out.println(fault);
    }

    static void end() {
        System.out.println(wrong == 0 ? "all answers are as due" : wrong + " answers are not as due");
        if (wrong != 0) {
            System.exit(1);
        }
    }
}
