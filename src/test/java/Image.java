import java.util.ArrayList;
import java.util.List;

/**
 * All that can be seen of a store that went through some calls: its cells, its counts, and what an
 * abandon, puts, a commit or a mount would find. Each is asked of new stores that go through the
 * same calls, as no object may be used for more than 512 of them and asking must not disturb.
 */
final class Image {
    static final int[] ROWS = {160, 160, 360};
    static final int[] WIDTHS = {24, 8, 32};
    private static final String[] KINDS = {"word ", "tag ", "line "};

    private Image() {
    }

    static List<String> of(List<Call> calls) {
        List<String> seen = cells(calls);
        seen.addAll(answers(calls, new Call("isOn"), new Call("left", 0), new Call("left", 1),
                new Call("left", 2), new Call("left", 3)));
        seen.addAll(answers(calls, putsAfterAbandon()));
        seen.addAll(answers(calls, new Call("commit"), new Call("isOn")));
        seen.addAll(cells(with(calls, new Call("commit"))));
        seen.addAll(answers(calls, new Call("mount"), new Call("abandon"), new Call("put", 61, 1)));
        seen.addAll(cells(with(calls, new Call("mount"))));
        return seen;
    }

    /** Every row that has a set cell. */
    static List<String> cells(List<Call> calls) {
        List<String> rows = new ArrayList<>();
        OnceStore store = after(calls);
        int used = calls.size();
        for (int what = 0; what < 3; what++) {
            for (int which = 0; which < ROWS[what]; which++) {
                if (used + WIDTHS[what] > Run.CALLS) {
                    store = after(calls);
                    used = calls.size();
                }
                used += WIDTHS[what];
                long row = row(store, what, which);
                if (row != 0) {
                    rows.add(KINDS[what] + which + " is " + Long.toHexString(row));
                }
            }
        }
        return rows;
    }

    static OnceStore after(List<Call> calls) {
        OnceStore store = new OnceStore();
        for (Call call : calls) {
            call.on(store);
        }
        return store;
    }

    /** All cells of a word (0), tag (1) or line (2), the lowest one being bit 0. */
    static long row(OnceStore store, int what, int which) {
        long row = 0;
        for (int bit = 0; bit < WIDTHS[what]; bit++) {
            row |= (long) store.cell(what, which, bit) << bit;
        }
        return row;
    }

    /** One write each but for the first, so that it shows how many writes power is to last. */
    private static Call[] putsAfterAbandon() {
        Call[] calls = new Call[13];
        calls[0] = new Call("abandon");
        int value = 0;
        for (int i = 1; i < calls.length; i++) {
            value = i <= 8 ? value | 1 << 2 * (i - 1) : value ^ 3 << 2 * (i - 9);
            calls[i] = new Call("put", 62, value);
        }
        return calls;
    }

    private static List<String> answers(List<Call> calls, Call... more) {
        List<String> answers = new ArrayList<>();
        OnceStore store = after(calls);
        for (Call call : more) {
            answers.add(call.text() + " answers " + call.on(store));
        }
        return answers;
    }

    private static List<Call> with(List<Call> calls, Call more) {
        List<Call> all = new ArrayList<>(calls);
        all.add(more);
        return all;
    }
}
