import java.util.List;

/** Promise 1: a new object, and the constant NONE. */
public final class NewObjectTest {
    public static void main(String[] args) {
        noCellIsSet();
        powerIsOn();
        allWordsAreFreshAndAllNotesEmpty();
        noKeyHasAWord();
        noBatchIsOpen();
        powerIsNotToFail();
        objectsAreTheirOwn();
        noneIsMinusOne();
        Run.end();
    }

    private static void noCellIsSet() {
        List<String> set = new Run("promise 1").cells();
        if (!set.isEmpty()) {
            Run.report("promise 1, no cell is set: " + set);
        }
    }

    private static void powerIsOn() {
        new Run("promise 1, power is on").due(true, "isOn").due(Run.STATE, "mount");
    }

    private static void allWordsAreFreshAndAllNotesEmpty() {
        Run run = new Run("promise 1, counts");
        run.due(160, "left", 0).due(40, "left", 1).due(0, "left", 2).due(0, "left", 3);
    }

    private static void noKeyHasAWord() {
        Run run = new Run("promise 1, no key has a word");
        for (int key = 0; key < 64; key++) {
            run.due(-1, "get", key).due(0, "words", key).due(Run.INDEX, "history", key, 0);
        }
    }

    private static void noBatchIsOpen() {
        Run run = new Run("promise 1, no batch");
        run.due(Run.STATE, "commit").due(Run.STATE, "abandon").due(Run.STATE, "stage", 0, 0)
                .due(2, "put", 0, 1);
    }

    private static void powerIsNotToFail() {
        Run run = new Run("promise 1, power is not to fail");
        for (int i = 0; i < 160; i++) {
            run.due(2, "put", 9, Stores.ONES).due(1, "put", 9, 0).due(true, "isOn");
        }
    }

    private static void objectsAreTheirOwn() {
        Run first = new Run("promise 1, first of two objects");
        Run second = new Run("promise 1, second of two objects");
        first.call("put", 1, 1).call("begin").call("stage", 2, 2);
        second.due(-1, "get", 1).due(160, "left", 0).due("done", "begin").due(1, "stage", 2, 3);
        second.call("failAfter", 0).due(-2, "commit");
        first.due(true, "isOn").due(1, "get", 1).due(5, "commit").due(2, "get", 2);
        second.due(false, "isOn");
    }

    private static void noneIsMinusOne() {
        if (OnceStore.NONE != -1) {
            Run.report("NONE is " + OnceStore.NONE + ", due is -1");
        }
    }
}
