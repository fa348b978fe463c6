/** Promise 15: history. */
public final class HistoryTest {
    public static void main(String[] args) {
        wordsInRisingOrder();
        whatAWordStandsForNow();
        otherKeysWordsDoNotCount();
        allWords();
        lowestAndHighestKey();
        noWordAtAll();
        oneBelowAndOneAbove();
        aWordWithoutATagIsNone();
        keyThatIsNone();
        keyAndNumberThatAreNone();
        askedWhilePowerIsOffOrABatchOpen();
        Run.end();
    }

    private static void wordsInRisingOrder() {
        Run run = new Run("promise 15, order").call("put", 2, 1).call("put", 2, 2).call("put", 2, 3)
                .call("put", 2, 0);
        run.call("put", 2, 0xFFFF).dueAndNothingElse(2, "history", 2, 0).due(0, "history", 2, 1);
        run.due(0xFFFF, "history", 2, 2);
    }

    private static void whatAWordStandsForNow() {
        Run run = new Run("promise 15, written over").call("put", 2, Stores.ONES)
                .due(Stores.ONES, "history", 2, 0);
        run.call("put", 2, 0x5556).due(0x5556, "history", 2, 0).call("put", 2, 0).due(0, "history", 2, 0);
    }

    private static void otherKeysWordsDoNotCount() {
        Run run = new Run("promise 15, other keys").call("put", 1, 8).call("put", 2, 1).call("put", 3, 9)
                .call("put", 2, 0);
        run.call("put", 1, 4).call("put", 2, 5).due(0, "history", 2, 0).due(5, "history", 2, 1)
                .due(4, "history", 1, 0);
        run.due(9, "history", 3, 0).due(Run.INDEX, "history", 3, 1).due(Run.INDEX, "history", 2, 2);
    }

    private static void allWords() {
        Run run = Stores.withWordsLeft(1, "promise 15, all words").call("put", Stores.FILLER, Stores.ONES);
        run.due(0, "history", Stores.FILLER, 158).due(Stores.ONES, "history", Stores.FILLER, 159);
        run.due(Run.INDEX, "history", Stores.FILLER, 160).due(0, "history", Stores.FILLER, 0);
    }

    private static void lowestAndHighestKey() {
        Run run = new Run("promise 15, bounds").call("put", 0, 65535).call("put", 63, 0);
        run.due(65535, "history", 0, 0).due(0, "history", 63, 0);
    }

    private static void noWordAtAll() {
        Run run = new Run("promise 15, no word").dueAndNothingElse(Run.INDEX, "history", 2, 0)
                .call("put", 2, 2);
        run.due(Run.INDEX, "history", 1, 0).due(Run.INDEX, "history", 3, 0).due(2, "history", 2, 0);
    }

    private static void oneBelowAndOneAbove() {
        Run run = new Run("promise 15, below and above").call("put", 2, 1).call("put", 2, 0).call("put", 2, 3);
        run.due(0, "history", 2, 0).due(3, "history", 2, 1).dueAndNothingElse(Run.INDEX, "history", 2, 2);
        run.dueAndNothingElse(Run.INDEX, "history", 2, -1)
                .dueAndNothingElse(Run.INDEX, "history", 2, Integer.MAX_VALUE);
        run.dueAndNothingElse(Run.INDEX, "history", 2, Integer.MIN_VALUE);
    }

    private static void aWordWithoutATagIsNone() {
        Run run = new Run("promise 15, no tag").call("put", 2, 1).call("put", 2, 0).call("failAfter", 1)
                .call("put", 2, 3);
        run.due(0, "history", 2, 0).due(Run.INDEX, "history", 2, 1).call("mount")
                .due(Run.INDEX, "history", 2, 1);
        run.call("put", 2, 3).due(3, "history", 2, 1).due(Run.INDEX, "history", 2, 2);
    }

    private static void keyThatIsNone() {
        Run run = new Run("promise 15, key is none").call("put", 0, 1).call("put", 63, 1);
        for (int key : Stores.WRONG_KEYS) {
            run.dueAndNothingElse(Run.ARGUMENT, "history", key, 0);
        }
    }

    /** The argument comes first, as it is listed first. */
    private static void keyAndNumberThatAreNone() {
        Run run = new Run("promise 15, key and number are none");
        for (int key : Stores.WRONG_KEYS) {
            run.due(Run.ARGUMENT, "history", key, -1).due(Run.ARGUMENT, "history", key, 160);
        }
    }

    private static void askedWhilePowerIsOffOrABatchOpen() {
        Run run = Stores.off("promise 15, power off").dueAndNothingElse(1, "history", 1, 0)
                .due(Run.INDEX, "history", 1, 1);
        run.dueAndNothingElse(Run.INDEX, "history", 2, 0).due(Run.ARGUMENT, "history", 64, 0);
        run.call("mount").call("begin").call("stage", 1, 2).dueAndNothingElse(1, "history", 1, 0);
        run.due(Run.INDEX, "history", 1, 1);
    }
}
