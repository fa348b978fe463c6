/** Promise 5: begin. */
public final class BeginTest {
    public static void main(String[] args) {
        aBatchIsOpen();
        theBatchIsEmpty();
        noCellIsSet();
        openAgainAfterCommit();
        openAgainAfterAbandon();
        openAgainAfterMount();
        openAfterARefusedPut();
        refusedWhenOneIsOpen();
        refusedAfterACommitWithoutRoom();
        refusedWhenPowerIsOff();
        Run.end();
    }

    private static void aBatchIsOpen() {
        new Run("promise 5").due("done", "begin").due(Run.STATE, "put", 0, 0).due(1, "stage", 0, 0);
    }

    private static void theBatchIsEmpty() {
        new Run("promise 5, empty").call("begin").due(0, "abandon");
        Run run = new Run("promise 5, empty after another one").call("begin").stageMany(0, 8, 5)
                .call("abandon");
        run.call("begin").due(1, "stage", 7, 5).due(1, "abandon");
    }

    private static void noCellIsSet() {
        Run run = new Run("promise 5, no cell").call("failAfter", 0).due("done", "begin").due(true, "isOn");
        run.due(0, "left", 2).due(0, "left", 3).due(40, "left", 1);
    }

    private static void openAgainAfterCommit() {
        Run run = new Run("promise 5, after commit").call("begin").call("stage", 1, 1).call("commit");
        run.due("done", "begin").due(1, "stage", 1, 2).due(1, "abandon");
    }

    private static void openAgainAfterAbandon() {
        Run run = new Run("promise 5, after abandon").call("begin").call("stage", 1, 1).call("abandon");
        run.due("done", "begin").due(1, "stage", 1, 2).due(1, "abandon");
    }

    private static void openAgainAfterMount() {
        Run run = new Run("promise 5, after mount").call("begin").call("stage", 1, 1).call("failAfter", 0)
                .call("commit");
        run.call("mount").due("done", "begin").due(1, "stage", 1, 2).due(1, "abandon");
    }

    private static void openAfterARefusedPut() {
        new Run("promise 5, after a refused put").due(Run.ARGUMENT, "put", 64, 0).due("done", "begin");
    }

    private static void refusedWhenOneIsOpen() {
        Run run = new Run("promise 5, one is open").call("begin").dueAndNothingElse(Run.STATE, "begin");
        run.call("stage", 1, 1).dueAndNothingElse(Run.STATE, "begin").due(2, "stage", 2, 2).due(2, "abandon");
        Stores.withEightStaged("promise 5, eight are staged").dueAndNothingElse(Run.STATE, "begin")
                .due(8, "abandon");
    }

    private static void refusedAfterACommitWithoutRoom() {
        Run run = Stores.withNotesLeft(0, "promise 5, commit had no room").call("begin").call("stage", 1, 1);
        run.due(-1, "commit").dueAndNothingElse(Run.STATE, "begin").due(1, "abandon").due("done", "begin");
    }

    private static void refusedWhenPowerIsOff() {
        Stores.off("promise 5, power is off").dueAndNothingElse(Run.STATE, "begin").call("mount")
                .due("done", "begin");
        Run run = new Run("promise 5, power failed in commit").call("begin").call("stage", 1, 1)
                .call("failAfter", 0);
        run.call("commit").dueAndNothingElse(Run.STATE, "begin").call("mount").due(Run.STATE, "abandon");
    }
}
