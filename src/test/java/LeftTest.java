/** Promise 9: left. */
public final class LeftTest {
    public static void main(String[] args) {
        freshWordsFromAllToNone();
        aWordWithOneSetCellIsNotFresh();
        aWordWithATagAloneIsNotFresh();
        notesFromAllToNone();
        aNoteWithOneLineIsNotEmpty();
        setCellsOfWordsTagsAndLines();
        everyCellOfAWordIsCounted();
        writesThatWereMade();
        writesThatAreNone();
        writesBeforePowerFailed();
        writesByMount();
        nothingIsChangedByAsking();
        whatThatIsNone();
        askedWhilePowerIsOffOrABatchOpen();
        Run.end();
    }

    private static void freshWordsFromAllToNone() {
        Run run = new Run("promise 9, fresh words");
        for (int word = 0; word < 160; word++) {
            run.due(160 - word, "left", 0).call("put", 9, Stores.ONES).call("put", 9, 0);
        }
        run.due(0, "left", 0).call("put", 9, 1).due(0, "left", 0).due(160 * (24 + 3), "left", 2)
                .due(160 * 3, "left", 3);
    }

    private static void aWordWithOneSetCellIsNotFresh() {
        Run run = new Run("promise 9, a cell of the word").call("failAfter", 1).call("put", 0, 1)
                .due(159, "left", 0);
        run.due(1, "left", 2).due(1, "left", 3).call("mount").due(159, "left", 0);
    }

    private static void aWordWithATagAloneIsNotFresh() {
        new Run("promise 9, a tag").call("put", 0, 0).due(159, "left", 0).due(1, "left", 2).due(1, "left", 3);
    }

    private static void notesFromAllToNone() {
        Run run = new Run("promise 9, notes");
        for (int note = 0; note < 40; note++) {
            run.due(40 - note, "left", 1).call("begin").call("stage", 0, 0).due(40 - note, "left", 1)
                    .call("commit");
        }
        run.due(0, "left", 1).call("begin").call("stage", 0, 0).call("commit").due(0, "left", 1);
    }

    private static void aNoteWithOneLineIsNotEmpty() {
        Run run = new Run("promise 9, a line").call("begin").call("stage", 0, 0).call("failAfter", 1)
                .call("commit");
        run.due(39, "left", 1).due(160, "left", 0).due(1, "left", 2).due(1, "left", 3).call("mount")
                .due(39, "left", 1);
        run = new Run("promise 9, no line").call("begin").call("stage", 0, 0).call("failAfter", 0)
                .call("commit");
        run.due(40, "left", 1);
    }

    private static void setCellsOfWordsTagsAndLines() {
        Run run = new Run("promise 9, set cells").call("put", 0, 1).due(1 + 1, "left", 2).call("put", 0, 2)
                .due(3, "left", 2);
        run.call("put", 0, 0).due(4, "left", 2).call("put", 63, 65535).due(4 + 8 + 7, "left", 2);
        run.call("begin").call("stage", 63, 65535).due(19, "left", 2).call("commit");
        run.due(19 + (16 + 6 + 1 + 1) + 2, "left", 2);
    }

    private static void everyCellOfAWordIsCounted() {
        Run run = new Run("promise 9, a full word").call("put", 0, Stores.ONES).due(9, "left", 2)
                .call("put", 0, 0);
        run.due(25, "left", 2);
    }

    private static void writesThatWereMade() {
        Run run = new Run("promise 9, writes").call("put", 0, 1).due(2, "left", 3).call("put", 0, 2)
                .due(3, "left", 3);
        run.call("put", 1, 0).due(4, "left", 3).call("begin").call("stage", 2, 2).due(4, "left", 3)
                .call("commit");
        run.due(9, "left", 3);
    }

    private static void writesThatAreNone() {
        Run run = new Run("promise 9, no writes").call("put", 0, 1).call("put", 0, 1).due(2, "left", 3);
        run.call("begin").call("commit").due(2, "left", 3).call("begin").call("stage", 1, 1).call("abandon")
                .due(2, "left", 3);
    }

    private static void writesBeforePowerFailed() {
        for (int n = 0; n < 5; n++) {
            Run run = new Run("promise 9, power fails after " + n).call("begin").call("stage", 2, 2)
                    .call("failAfter", n);
            run.due(-2, "commit").due(n, "left", 3);
        }
    }

    private static void writesByMount() {
        Run run = new Run("promise 9, writes by mount").call("begin").call("stage", 2, 2).call("failAfter", 2)
                .call("commit");
        run.due(2, "left", 3).due(3 + 1, "left", 2).call("mount").due(5, "left", 3)
                .due(4 + 1 + 2 + 1, "left", 2);
        run.call("failAfter", 0).call("put", 0, 0).call("mount").due(5, "left", 3);
    }

    private static void nothingIsChangedByAsking() {
        Run run = new Run("promise 9, asking").call("put", 1, 1).call("begin").call("stage", 2, 2)
                .call("failAfter", 1);
        run.dueAndNothingElse(159, "left", 0).dueAndNothingElse(40, "left", 1);
        run.dueAndNothingElse(3, "left", 2).dueAndNothingElse(2, "left", 3);
    }

    private static void whatThatIsNone() {
        for (int what : new int[] {-1, 4, Integer.MIN_VALUE, Integer.MAX_VALUE}) {
            new Run("promise 9, another what").dueAndNothingElse(Run.ARGUMENT, "left", what);
            new Run("promise 9, another what, batch open").call("begin")
                    .dueAndNothingElse(Run.ARGUMENT, "left", what);
            Stores.off("promise 9, another what, power off").dueAndNothingElse(Run.ARGUMENT, "left", what);
        }
    }

    private static void askedWhilePowerIsOffOrABatchOpen() {
        Run run = Stores.off("promise 9, power off").due(159, "left", 0).due(40, "left", 1).due(3, "left", 2)
                .due(2, "left", 3);
        run.call("mount").call("begin").due(159, "left", 0).due(40, "left", 1).due(3, "left", 2)
                .due(2, "left", 3);
    }
}
