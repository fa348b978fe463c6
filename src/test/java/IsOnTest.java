/** Promise 12: isOn. */
public final class IsOnTest {
    public static void main(String[] args) {
        onAtFirst();
        onWhileOnlyToFail();
        offAfterAPutThatFailed();
        offAfterACommitThatFailed();
        offUntilMount();
        onAfterCallsWithoutRoom();
        Run.end();
    }

    private static void onAtFirst() {
        new Run("promise 12, new").dueAndNothingElse(true, "isOn");
    }

    private static void onWhileOnlyToFail() {
        Run run = new Run("promise 12, to fail").call("put", 1, 1).call("failAfter", 0)
                .dueAndNothingElse(true, "isOn");
        run.call("get", 1).due(true, "isOn").call("put", 1, 1).due(true, "isOn").call("begin")
                .due(true, "isOn");
        run.call("stage", 1, 2).due(true, "isOn").call("abandon").due(true, "isOn");
    }

    private static void offAfterAPutThatFailed() {
        new Run("promise 12, put").call("failAfter", 0).call("put", 1, 1).dueAndNothingElse(false, "isOn");
        new Run("promise 12, put's tag").call("failAfter", 1).call("put", 1, 1)
                .dueAndNothingElse(false, "isOn");
    }

    private static void offAfterACommitThatFailed() {
        for (int n = 0; n < 6; n++) {
            Run run = new Run("promise 12, commit after " + n).call("begin").call("stage", 1, 1)
                    .call("failAfter", n);
            run.call("commit").due(n == 5, "isOn");
        }
    }

    private static void offUntilMount() {
        Run run = Stores.off("promise 12, until mount").call("put", 1, 1).due(false, "isOn")
                .call("failAfter", -1);
        run.due(false, "isOn").call("begin").due(false, "isOn").call("abandon").due(false, "isOn");
        run.call("mount").dueAndNothingElse(true, "isOn");
    }

    private static void onAfterCallsWithoutRoom() {
        Run run = Stores.withWordsLeft(0, "promise 12, no room").call("failAfter", 0).due(-1, "put", 5, 5)
                .due(true, "isOn");
        run.call("begin").call("stage", 5, 5).due(-1, "commit").due(true, "isOn");
    }
}
