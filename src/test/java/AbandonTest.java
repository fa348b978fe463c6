/** Promise 8: abandon. */
public final class AbandonTest {
    public static void main(String[] args) {
        noPuts();
        somePuts();
        eightPuts();
        nothingOfItIsDone();
        afterACommitWithoutRoom();
        powerToFail();
        refusedWhenNoBatchIsOpen();
        refusedWhenPowerIsOff();
        refusedAfterAFailedCommit();
        Run.end();
    }

    private static void noPuts() {
        new Run("promise 8, no puts").call("begin").due(0, "abandon").due("done", "begin").due(0, "abandon");
    }

    private static void somePuts() {
        new Run("promise 8, one put").call("begin").call("stage", 1, 1).due(1, "abandon");
        new Run("promise 8, two puts").call("begin").call("stage", 1, 1).call("stage", 2, 2).due(2, "abandon");
    }

    private static void eightPuts() {
        Run run = Stores.withEightStaged("promise 8, eight puts").due(8, "abandon").due(Run.STATE, "abandon");
        run.call("begin").due(0, "abandon");
    }

    private static void nothingOfItIsDone() {
        Run run = new Run("promise 8, nothing is done").call("put", 1, 1).call("begin").call("stage", 1, 2);
        run.call("stage", 2, 2).due(2, "abandon").due(1, "get", 1).due(-1, "get", 2).due(2, "left", 3);
        run.due(40, "left", 1).due(159, "left", 0).dueCells(0, 2, 0).due(Run.STATE, "commit")
                .due(1, "put", 1, 2);
    }

    private static void afterACommitWithoutRoom() {
        Run run = Stores.withNotesLeft(0, "promise 8, commit had no room").call("begin").call("stage", 1, 1);
        run.due(-1, "commit").due(1, "abandon").due(Run.STATE, "abandon").due(2, "put", 1, 1);
    }

    private static void powerToFail() {
        Run run = new Run("promise 8, power to fail").call("begin").call("stage", 1, 1).call("failAfter", 0);
        run.due(1, "abandon").due(true, "isOn").due(-2, "put", 1, 1);
    }

    private static void refusedWhenNoBatchIsOpen() {
        Run run = new Run("promise 8, no batch").dueAndNothingElse(Run.STATE, "abandon").call("begin")
                .call("stage", 1, 1);
        run.call("commit").dueAndNothingElse(Run.STATE, "abandon").call("begin").call("abandon");
        run.dueAndNothingElse(Run.STATE, "abandon");
    }

    private static void refusedWhenPowerIsOff() {
        Run run = Stores.off("promise 8, power is off").dueAndNothingElse(Run.STATE, "abandon");
        run.call("mount").due(Run.STATE, "abandon");
    }

    private static void refusedAfterAFailedCommit() {
        for (int n = 0; n < 5; n++) {
            Run run = new Run("promise 8, commit failed after " + n).call("begin").call("stage", 1, 1)
                    .call("failAfter", n);
            run.due(-2, "commit").dueAndNothingElse(Run.STATE, "abandon").call("mount")
                    .due(Run.STATE, "abandon");
        }
    }
}
