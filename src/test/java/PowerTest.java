/** Promises 11 to 13: failAfter, isOn, mount. */
public final class PowerTest {
    public static void main(String[] args) {
        failAfterCounts();
        failAfterIsTakenBack();
        failAfterOfWrongInputs();
        isOnTells();
        mountCounts();
        mountForgetsTheBatchAndTheFailure();
        mountFinishesAReadyNote();
        mountLeavesOtherNotesAlone();
        Run.end();
    }

    private static void failAfterCounts() {
        Run run = new Run("promise 11");
        run.due("done", "failAfter", 3).due(2, "put", 0, 1).due(0, "put", 0, 1).due(true, "isOn");
        run.due(1, "put", 0, 2).due(true, "isOn").due(0, "put", 0, 2).due(-2, "put", 0, 0).due(false, "isOn");
        run.due(3, "left", 3).call("mount").due(2, "get", 0);
        run.due("done", "failAfter", 0).due(-2, "put", 0, 0).call("mount").due(2, "get", 0).due(3, "left", 3);
        run.due("done", "failAfter", 1000).due(1, "put", 0, 0).due(true, "isOn");
    }

    private static void failAfterIsTakenBack() {
        Run run = new Run("promise 11, taken back");
        run.call("failAfter", 0).due("done", "failAfter", -1).due(2, "put", 0, 1).due(1, "put", 0, 2);
        run.call("failAfter", 0).due("done", "failAfter", 1).due(1, "put", 0, 0).due(true, "isOn");
        run.due("done", "failAfter", -1).call("begin").due("done", "failAfter", 0).call("stage", 1, 1);
        run.due(-2, "commit");
    }

    private static void failAfterOfWrongInputs() {
        Run run = new Run("promise 11, wrong inputs");
        int[] wrong = {-2, 1001, Integer.MIN_VALUE, Integer.MAX_VALUE};
        for (int n : wrong) {
            run.due(Run.ARGUMENT, "failAfter", n);
        }
        run.due(2, "put", 0, 1).call("failAfter", 0).due(Run.ARGUMENT, "failAfter", 1001).due(-2, "put", 0, 2);
        run.due(Run.STATE, "failAfter", 0).due(Run.STATE, "failAfter", -1).due(Run.STATE, "failAfter", 1000);
        for (int n : wrong) {
            run.due(Run.ARGUMENT, "failAfter", n);
        }
    }

    private static void isOnTells() {
        Run run = new Run("promise 12");
        run.due(true, "isOn").call("failAfter", 0).due(true, "isOn").call("get", 0).due(true, "isOn");
        run.call("put", 0, 1).due(false, "isOn").call("put", 0, 1).due(false, "isOn");
        run.call("mount").due(true, "isOn");
    }

    private static void mountCounts() {
        Run run = new Run("promise 13");
        run.due(Run.STATE, "mount").call("failAfter", 0).due(Run.STATE, "mount").call("put", 0, 1).due(0, "mount");
        run.due(Run.STATE, "mount").call("put", 0, 0x5555).call("put", 63, 0).call("put", 0, 0).call("put", 0, 1);
        run.call("failAfter", 1).due(-2, "put", 7, 1).due(2, "mount").due(0, "words", 7);
    }

    private static void mountForgetsTheBatchAndTheFailure() {
        Run run = new Run("promise 13, no batch, no failure");
        run.call("begin").call("stage", 1, 1).call("failAfter", 0).due(-2, "commit").due(0, "mount");
        run.due(Run.STATE, "abandon").due(2, "put", 1, 1).due(1, "put", 1, 2).due(true, "isOn");
        run.due("done", "begin").due(1, "stage", 1, 3).due(1, "abandon");
    }

    /** Only line 8's first write lies behind the failure, so mount does all eight puts. */
    private static void mountFinishesAReadyNote() {
        Run run = new Run("promise 13, a ready note");
        run.call("begin");
        for (int key = 0; key < 8; key++) {
            run.call("stage", key, key + 1);
        }
        run.call("failAfter", 9).due(-2, "commit").dueCells(1, 2, 8).due(160, "left", 0).due(0, "words", 0);
        run.due(8, "mount").dueCells(3, 2, 8).due(9 + 16 + 1, "left", 3).due(152, "left", 0);
        for (int key = 0; key < 8; key++) {
            run.due(key + 1, "get", key).due(1, "words", key).dueCells(128 + key, 1, key);
        }
    }

    private static void mountLeavesOtherNotesAlone() {
        Run run = new Run("promise 13, other notes");
        run.call("begin").call("stage", 1, 1).call("commit").call("put", 1, 2);
        run.call("begin").call("stage", 1, 0).call("failAfter", 1).due(-2, "commit").due(1, "mount");
        run.due(2, "get", 1).dueCells(3, 2, 8).dueCells(0, 2, 17).due(7, "left", 3);
        run.call("failAfter", 0).due(-2, "put", 1, 0).due(1, "mount").due(2, "get", 1).due(7, "left", 3);
    }
}
