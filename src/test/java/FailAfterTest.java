/** Promise 11: failAfter. */
public final class FailAfterTest {
    private static final int[] WRONG = {-2, 1001, Integer.MIN_VALUE, Integer.MAX_VALUE};

    public static void main(String[] args) {
        zeroFailsInsteadOfTheNextWrite();
        oneWriteIsMade();
        writesOfSeveralCallsCount();
        writesThatSetNothingDoNotCount();
        aThousandIsTaken();
        noneIsNotToFail();
        theLastOneCounts();
        aRefusedOneLeavesTheFormer();
        aBatchMayBeOpen();
        mountTakesItBack();
        numberThatIsNotTaken();
        refusedWhenPowerIsOff();
        Run.end();
    }

    private static void zeroFailsInsteadOfTheNextWrite() {
        Run run = new Run("promise 11, 0").due("done", "failAfter", 0).due(true, "isOn").due(-2, "put", 0, 1);
        run.due(false, "isOn").due(0, "left", 3);
    }

    private static void oneWriteIsMade() {
        Run run = new Run("promise 11, 1").due("done", "failAfter", 1).due(1, "put", 0, 0).due(true, "isOn");
        run.due(-2, "put", 0, 1).due(false, "isOn").due(1, "left", 3);
    }

    private static void writesOfSeveralCallsCount() {
        Run run = new Run("promise 11, several calls").due("done", "failAfter", 8).due(2, "put", 0, 1)
                .due(1, "put", 0, 2);
        run.call("begin").call("stage", 1, 1).due(5, "commit").due(true, "isOn").due(-2, "put", 1, 2)
                .due(8, "left", 3);
    }

    private static void writesThatSetNothingDoNotCount() {
        Run run = new Run("promise 11, writes that are none").call("put", 0, 1).call("failAfter", 1)
                .due(0, "put", 0, 1);
        run.due(0, "put", 0, 1).call("begin").due(0, "commit").due(1, "put", 0, 2).due(0, "put", 0, 2)
                .due(true, "isOn");
        run.due(-2, "put", 0, 0).due(false, "isOn");
    }

    /** 512 calls cannot make a thousand writes, so only that power does not fail before can be seen. */
    private static void aThousandIsTaken() {
        Run run = new Run("promise 11, 1000").due("done", "failAfter", 1000);
        int[] values = {1, 2, 0};
        for (int note = 0; note < 40; note++) {
            run.call("begin").stageMany(0, 8, values[note % 3]).due(note % 3 == 0 ? 26 : 18, "commit");
        }
        run.due(true, "isOn").due(14 * 26 + 26 * 18, "left", 3);
    }

    private static void noneIsNotToFail() {
        Run run = new Run("promise 11, NONE").call("failAfter", 0).due("done", "failAfter", -1)
                .due(2, "put", 0, 1);
        run.due(1, "put", 0, 2).due("done", "failAfter", -1).due(1, "put", 0, 0).due(true, "isOn");
    }

    private static void theLastOneCounts() {
        Run run = new Run("promise 11, twice").call("failAfter", 0).due("done", "failAfter", 2)
                .due(2, "put", 0, 1);
        run.due("done", "failAfter", 5).due("done", "failAfter", 0).due(-2, "put", 0, 2);
    }

    private static void aRefusedOneLeavesTheFormer() {
        for (int n : WRONG) {
            Run run = new Run("promise 11, a refused one").call("failAfter", 1)
                    .due(Run.ARGUMENT, "failAfter", n);
            run.due(1, "put", 0, 0).due(-2, "put", 0, 1);
        }
    }

    private static void aBatchMayBeOpen() {
        Run run = new Run("promise 11, batch open").call("begin").call("stage", 1, 1)
                .due("done", "failAfter", 0);
        run.due(2, "stage", 2, 2).due(-2, "commit").due(0, "left", 3);
        run = new Run("promise 11, before the batch").due("done", "failAfter", 3).call("begin")
                .call("stage", 1, 1);
        run.due(-2, "commit").due(3, "left", 3);
    }

    private static void mountTakesItBack() {
        Run run = new Run("promise 11, after mount").call("failAfter", 0).call("put", 0, 1).call("mount")
                .due(2, "put", 0, 1);
        run.due("done", "failAfter", 0).due(-2, "put", 0, 2);
    }

    private static void numberThatIsNotTaken() {
        for (int n : WRONG) {
            new Run("promise 11, not taken").dueAndNothingElse(Run.ARGUMENT, "failAfter", n);
            new Run("promise 11, not taken, batch open").call("begin")
                    .dueAndNothingElse(Run.ARGUMENT, "failAfter", n);
            new Run("promise 11, not taken, one to come").call("failAfter", 3)
                    .dueAndNothingElse(Run.ARGUMENT, "failAfter", n);
            Stores.off("promise 11, not taken, power off").dueAndNothingElse(Run.ARGUMENT, "failAfter", n);
        }
    }

    private static void refusedWhenPowerIsOff() {
        Run run = Stores.off("promise 11, power is off");
        for (int n : new int[] {-1, 0, 1, 1000}) {
            run.dueAndNothingElse(Run.STATE, "failAfter", n);
        }
        run.call("mount").due(1, "put", 1, 2).due(1, "put", 1, 0).due(true, "isOn");
    }
}
