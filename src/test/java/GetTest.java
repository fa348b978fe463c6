/** Promise 3: get. */
public final class GetTest {
    public static void main(String[] args) {
        valueOfTheLastPut();
        everyValueComesBack();
        noneForAKeyWithoutAWord();
        zeroIsAValue();
        aStagedPutIsNotSeen();
        aWordWithoutATagIsNoKeys();
        keyThatIsNone();
        refusedWhenPowerIsOff();
        Run.end();
    }

    private static void valueOfTheLastPut() {
        Run run = new Run("promise 3").call("put", 20, 12345).dueAndNothingElse(12345, "get", 20);
        run.call("put", 20, 54321).due(54321, "get", 20).call("put", 20, 12345).due(12345, "get", 20);
    }

    private static void everyValueComesBack() {
        for (int first = 0; first < 65536; first += 128) {
            Run run = new Run("promise 3, every value");
            for (int value = first; value < first + 128; value++) {
                run.call("put", value % 64, value).due(value, "get", value % 64);
            }
        }
    }

    private static void noneForAKeyWithoutAWord() {
        Run run = new Run("promise 3, no word").dueAndNothingElse(-1, "get", 0).due(-1, "get", 63);
        run.call("put", 31, 8).due(-1, "get", 30).due(-1, "get", 32).due(8, "get", 31);
    }

    private static void zeroIsAValue() {
        Run run = new Run("promise 3, 0").call("put", 0, 0).due(0, "get", 0);
        run.call("put", 1, 65535).call("put", 1, 0).due(0, "get", 1);
    }

    private static void aStagedPutIsNotSeen() {
        Run run = new Run("promise 3, batch open").call("put", 1, 6).call("begin").call("stage", 1, 7)
                .call("stage", 2, 8);
        run.due(6, "get", 1).due(-1, "get", 2).call("commit").due(7, "get", 1).due(8, "get", 2);
    }

    private static void aWordWithoutATagIsNoKeys() {
        Run run = new Run("promise 3, no tag").call("failAfter", 1).call("put", 0, 1).call("mount");
        run.due(-1, "get", 0).due(-1, "get", 1);
    }

    private static void keyThatIsNone() {
        Run run = new Run("promise 3, key is none").call("put", 0, 1).call("put", 63, 2);
        Stores.dueWrongKeys(run, "get");
        run.due(1, "get", 0).due(2, "get", 63);
    }

    private static void refusedWhenPowerIsOff() {
        Run run = Stores.off("promise 3, power is off");
        run.dueAndNothingElse(Run.STATE, "get", 1).dueAndNothingElse(Run.STATE, "get", 2);
        Stores.dueWrongKeys(run, "get");
        run.call("mount").due(1, "get", 1).due(-1, "get", 2);
    }
}
