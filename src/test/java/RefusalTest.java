import java.util.LinkedHashMap;
import java.util.Map;
import java.util.function.Supplier;

/** All promises: where each call is refused and where it is not, in every state that a store can be in. */
public final class RefusalTest {
    private static final String FREE = "free";

    /** How each state is come to: power on without a batch, with one, with a full one, and power off. */
    private static Map<String, Supplier<Run>> states() {
        Map<String, Supplier<Run>> states = new LinkedHashMap<>();
        states.put("new", () -> new Run("refusals, new"));
        states.put("on", () -> started("refusals, on"));
        states.put("to fail", () -> started("refusals, to fail").call("failAfter", 0));
        states.put("mounted", () -> Stores.off("refusals, mounted").call("mount"));
        states.put("open", () -> started("refusals, open").call("begin"));
        states.put("staged", () -> started("refusals, staged").call("begin").call("stage", 8, 7));
        states.put("eight", () -> started("refusals, eight").call("begin").stageMany(8, 8, 7));
        states.put("off", () -> Stores.off("refusals, off"));
        states.put("off in tag", () -> started("refusals, off in tag").call("failAfter", 1).call("put", 2, 2));
        states.put("off in lines", () -> failedCommit("refusals, off in lines", 1));
        states.put("off when ready", () -> failedCommit("refusals, off when ready", 3));
        return states;
    }

    private static Run started(String title) {
        return new Run(title).call("put", 1, 1);
    }

    private static Run failedCommit(String title, int writes) {
        return started(title).call("begin").call("stage", 8, 7).call("stage", 9, 7).call("failAfter", writes)
                .call("commit");
    }

    public static void main(String[] args) {
        for (Map.Entry<String, Supplier<Run>> state : states().entrySet()) {
            boolean off = state.getKey().startsWith("off");
            boolean eight = state.getKey().equals("eight");
            boolean staged = eight || state.getKey().equals("staged");
            boolean open = staged || state.getKey().equals("open");
            Supplier<Run> start = state.getValue();
            due(start, off || open ? Run.STATE : FREE, new Call("put", 1, 2));
            due(start, off || open ? Run.STATE : FREE, new Call("put", 20, 0));
            due(start, off ? Run.STATE : FREE, new Call("get", 1));
            due(start, off ? Run.STATE : FREE, new Call("wouldMove", 1, 2));
            due(start, off || open ? Run.STATE : FREE, new Call("begin"));
            due(start, off || !open || eight ? Run.STATE : FREE, new Call("stage", 20, 0));
            due(start, staged ? Run.ARGUMENT : off || !open ? Run.STATE : FREE, new Call("stage", 8, 7));
            due(start, off || !open ? Run.STATE : FREE, new Call("commit"));
            due(start, off || !open ? Run.STATE : FREE, new Call("abandon"));
            due(start, off ? Run.STATE : FREE, new Call("failAfter", 0));
            due(start, off ? Run.STATE : FREE, new Call("failAfter", -1));
            due(start, off ? Run.STATE : FREE, new Call("failAfter", 1000));
            due(start, off ? FREE : Run.STATE, new Call("mount"));
            neverRefused(start);
            alwaysRefused(start);
        }
        Run.end();
    }

    private static void neverRefused(Supplier<Run> start) {
        due(start, FREE, new Call("isOn"));
        due(start, FREE, new Call("left", 0));
        due(start, FREE, new Call("left", 3));
        due(start, FREE, new Call("cell", 0, 0, 0));
        due(start, FREE, new Call("cell", 2, 359, 31));
        due(start, FREE, new Call("words", 63));
    }

    /** What no state takes: the argument comes before the state, as it is listed first. */
    private static void alwaysRefused(Supplier<Run> start) {
        for (String name : new String[] {"put", "wouldMove", "stage"}) {
            Stores.dueWrongKeysAndValues(start.get(), name);
        }
        Stores.dueWrongKeys(start.get(), "get");
        Stores.dueWrongKeys(start.get(), "words");
        due(start, Run.ARGUMENT, new Call("failAfter", -2));
        due(start, Run.ARGUMENT, new Call("failAfter", 1001));
        due(start, Run.ARGUMENT, new Call("left", -1));
        due(start, Run.ARGUMENT, new Call("left", 4));
        due(start, Run.ARGUMENT, new Call("history", -1, 0));
        due(start, Run.ARGUMENT, new Call("history", 64, 0));
        due(start, Run.INDEX, new Call("history", 1, -1));
        due(start, Run.INDEX, new Call("history", 1, 1));
        due(start, Run.INDEX, new Call("cell", 0, 160, 0));
        due(start, Run.INDEX, new Call("cell", 1, 0, 8));
        due(start, Run.INDEX, new Call("cell", 2, 360, 0));
        due(start, Run.INDEX, new Call("cell", 3, 0, 0));
    }

    private static void due(Supplier<Run> start, String want, Call call) {
        if (want.equals(FREE)) {
            start.get().dueNotRefused(call.name(), call.args());
        } else {
            start.get().dueAndNothingElse(want, call.name(), call.args());
        }
    }
}
