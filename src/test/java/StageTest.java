/** Promise 6: stage. */
public final class StageTest {
    public static void main(String[] args) {
        countsTheBatch();
        lowestAndHighestKeyAndValue();
        noCellIsSet();
        eightAreTaken();
        aNinthIsRefused();
        aStagedKeyIsRefused();
        eachOfEightIsStaged();
        aRefusedOneIsNotCounted();
        aKeyOfAnEarlierBatchIsNotStaged();
        aKeyIsStillStagedAfterACommitWithoutRoom();
        keyOrValueThatIsNone();
        refusedWhenNoBatchIsOpen();
        refusedWhenPowerIsOff();
        refusedAfterAFailedCommit();
        Run.end();
    }

    private static void countsTheBatch() {
        Run run = new Run("promise 6").call("begin").due(1, "stage", 5, 1).due(2, "stage", 4, 1)
                .due(3, "stage", 6, 0);
        run.due(3 + 1 + 2 + 2 + 1 + 1, "commit").due(1, "get", 5).due(1, "get", 4).due(0, "get", 6);
    }

    private static void lowestAndHighestKeyAndValue() {
        Run run = new Run("promise 6, bounds").call("begin").due(1, "stage", 0, 65535).due(2, "stage", 63, 0);
        run.call("commit").due(65535, "get", 0).due(0, "get", 63);
    }

    private static void noCellIsSet() {
        Run run = new Run("promise 6, no cell").call("begin").call("failAfter", 0).due(1, "stage", 1, 65535);
        run.due(true, "isOn").due(0, "left", 2).due(0, "left", 3).due(160, "left", 0).due(40, "left", 1);
    }

    private static void eightAreTaken() {
        Run run = new Run("promise 6, eight").call("begin");
        for (int key = 0; key < 8; key++) {
            run.due(key + 1, "stage", 63 - key, 65535 - key);
        }
        run.due(8 + 1 + 16 + 1, "commit");
        for (int key = 0; key < 8; key++) {
            run.due(65535 - key, "get", 63 - key);
        }
    }

    private static void aNinthIsRefused() {
        Run run = Stores.withEightStaged("promise 6, a ninth").dueAndNothingElse(Run.STATE, "stage", 0, 0);
        run.dueAndNothingElse(Run.STATE, "stage", 63, 65535).dueAndNothingElse(Run.STATE, "stage", 16, 7);
        run.due(8, "abandon");
    }

    private static void aStagedKeyIsRefused() {
        Run run = new Run("promise 6, key is staged").call("begin").call("stage", 0, 5);
        run.dueAndNothingElse(Run.ARGUMENT, "stage", 0, 5).dueAndNothingElse(Run.ARGUMENT, "stage", 0, 6);
        run.due(2, "stage", 1, 5).dueAndNothingElse(Run.ARGUMENT, "stage", 0, 0);
        run.dueAndNothingElse(Run.ARGUMENT, "stage", 1, 0).due(2, "abandon");
    }

    /** A key that is staged and a batch that is full: the argument comes first, as it is listed first. */
    private static void eachOfEightIsStaged() {
        Run run = Stores.withEightStaged("promise 6, each of eight is staged");
        for (int key = 8; key < 16; key++) {
            run.dueAndNothingElse(Run.ARGUMENT, "stage", key, 9);
        }
    }

    private static void aRefusedOneIsNotCounted() {
        Run run = new Run("promise 6, refused ones").call("begin").due(Run.ARGUMENT, "stage", 1, 65536);
        run.due(1, "stage", 1, 5).due(Run.ARGUMENT, "stage", 1, 6).due(Run.ARGUMENT, "stage", 64, 5);
        run.due(2, "stage", 2, 6).due(2 + 1 + 4 + 1, "commit").due(5, "get", 1).due(6, "get", 2);
    }

    private static void aKeyOfAnEarlierBatchIsNotStaged() {
        Run run = new Run("promise 6, earlier batches").call("begin").call("stage", 1, 1).call("commit");
        run.call("begin").due(1, "stage", 1, 2).call("abandon").call("begin").due(1, "stage", 1, 2);
    }

    private static void aKeyIsStillStagedAfterACommitWithoutRoom() {
        Run run = Stores.withNotesLeft(0, "promise 6, commit had no room").call("begin").call("stage", 1, 1);
        run.due(-1, "commit").dueAndNothingElse(Run.ARGUMENT, "stage", 1, 1).due(2, "stage", 2, 2);
    }

    private static void keyOrValueThatIsNone() {
        Run run = new Run("promise 6, key or value is none").call("begin").call("stage", 5, 1);
        Stores.dueWrongKeysAndValues(run, "stage");
        run.due(1, "abandon");
        Stores.dueWrongKeysAndValues(Stores.withEightStaged("promise 6, none, eight staged"), "stage");
        Stores.dueWrongKeysAndValues(new Run("promise 6, none, no batch"), "stage");
    }

    private static void refusedWhenNoBatchIsOpen() {
        Run run = new Run("promise 6, no batch").dueAndNothingElse(Run.STATE, "stage", 0, 0);
        run.call("begin").call("stage", 1, 1).call("commit").dueAndNothingElse(Run.STATE, "stage", 1, 1);
        run.call("begin").call("stage", 1, 1).call("abandon").dueAndNothingElse(Run.STATE, "stage", 1, 1);
    }

    private static void refusedWhenPowerIsOff() {
        Run run = Stores.off("promise 6, power is off").dueAndNothingElse(Run.STATE, "stage", 1, 1);
        run.dueAndNothingElse(Run.STATE, "stage", 2, 2);
        Stores.dueWrongKeysAndValues(run, "stage");
    }

    /** A commit that power ended has closed its batch: no key is staged any more. */
    private static void refusedAfterAFailedCommit() {
        Run run = new Run("promise 6, after a failed commit");
        run.call("begin").call("stage", 3, 4).call("failAfter", 0).due(-2, "commit");
        run.dueAndNothingElse(Run.STATE, "stage", 3, 4).dueAndNothingElse(Run.STATE, "stage", 4, 4);
        run.call("mount").due(Run.STATE, "stage", 3, 4).call("begin").due(1, "stage", 3, 4);
    }
}
