/** Promise 14: words. */
public final class WordsTest {
    public static void main(String[] args) {
        noWord();
        oneWordThatIsWrittenOver();
        oneMoreForEachMove();
        allWords();
        lowestAndHighestKey();
        aStagedPutUsesNone();
        aWordWithoutATagIsNotUsed();
        keyThatIsNone();
        askedWhilePowerIsOffOrABatchOpen();
        Run.end();
    }

    private static void noWord() {
        Run run = new Run("promise 14, no word").dueAndNothingElse(0, "words", 0).due(0, "words", 63);
        run.call("put", 5, 5).due(0, "words", 4).due(0, "words", 6);
    }

    private static void oneWordThatIsWrittenOver() {
        Run run = new Run("promise 14, written over").call("put", 0, Stores.ONES)
                .dueAndNothingElse(1, "words", 0);
        run.call("put", 0, 0).due(1, "words", 0).call("put", 0, 0).due(1, "words", 0);
    }

    private static void oneMoreForEachMove() {
        Run run = new Run("promise 14, moves").call("put", 0, 1).call("put", 1, 1).call("put", 0, 0)
                .call("put", 0, 1);
        run.due(2, "words", 0).call("put", 0, 0).due(2, "words", 0).call("put", 0, 2).due(3, "words", 0)
                .due(1, "words", 1);
    }

    private static void allWords() {
        Stores.withWordsLeft(0, "promise 14, all words").due(160, "words", Stores.FILLER).due(0, "words", 5);
    }

    private static void lowestAndHighestKey() {
        new Run("promise 14, bounds").call("put", 0, 0).call("put", 63, 0).due(1, "words", 0)
                .due(1, "words", 63);
    }

    private static void aStagedPutUsesNone() {
        Run run = new Run("promise 14, staged").call("begin").call("stage", 63, 1).due(0, "words", 63)
                .call("commit");
        run.due(1, "words", 63);
    }

    private static void aWordWithoutATagIsNotUsed() {
        Run run = new Run("promise 14, no tag").call("put", 5, 1).call("put", 5, 0).call("failAfter", 1)
                .call("put", 5, 5);
        run.due(1, "words", 5).call("mount").due(1, "words", 5);
    }

    private static void keyThatIsNone() {
        Stores.dueWrongKeys(new Run("promise 14, key is none").call("put", 0, 1).call("put", 63, 1), "words");
        Stores.dueWrongKeys(Stores.off("promise 14, key is none, power off"), "words");
    }

    private static void askedWhilePowerIsOffOrABatchOpen() {
        Run run = Stores.off("promise 14, power off").dueAndNothingElse(1, "words", 1).due(0, "words", 2);
        run.call("mount").call("begin").call("stage", 2, 2).dueAndNothingElse(1, "words", 1).due(0, "words", 2);
    }
}
