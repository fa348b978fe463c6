/** Promises 9, 10, 14 and 15 and the constant: left, cell, words, history, NONE. */
public final class LookTest {
    private static final int ONES = 0x5555;

    public static void main(String[] args) {
        leftCounts();
        leftOfWrongInputs();
        cellReads();
        cellOfWrongInputs();
        wordsCounts();
        historyTells();
        constantIsAsDue();
        Run.end();
    }

    private static void leftCounts() {
        Run run = new Run("promise 9");
        run.call("put", 0, 1).due(159, "left", 0).due(40, "left", 1).due(2, "left", 2).due(2, "left", 3);
        run.call("put", 0, 2).due(159, "left", 0).due(3, "left", 2).due(3, "left", 3);
        run.call("put", 0, 2).due(3, "left", 2).due(3, "left", 3);
        run.call("begin").call("stage", 1, 3).due(40, "left", 1).due(159, "left", 0).call("commit");
        run.due(158, "left", 0).due(39, "left", 1).due(3 + (2 + 1 + 1 + 1) + 1 + (1 + 2) + 1, "left", 2);
        run.due(8, "left", 3);
        run.call("begin").call("stage", 1, 2).call("failAfter", 2).call("commit");
        run.due(10, "left", 3).due(38, "left", 1).due(158, "left", 0).due(13 + 1 + 1 + 1 + 1 + 1, "left", 2);
        run.call("mount").due(12, "left", 3).due(20, "left", 2);
    }

    private static void leftOfWrongInputs() {
        Run run = new Run("promise 9, wrong inputs");
        run.due(Run.ARGUMENT, "left", -1).due(Run.ARGUMENT, "left", 4);
        run.due(Run.ARGUMENT, "left", Integer.MIN_VALUE).due(Run.ARGUMENT, "left", Integer.MAX_VALUE);
        run.call("failAfter", 1).call("put", 0, 1);
        run.due(159, "left", 0).due(40, "left", 1).due(1, "left", 2).due(1, "left", 3).due(Run.ARGUMENT, "left", 4);
    }

    private static void cellReads() {
        Run run = new Run("promise 10");
        run.call("put", 63, 0xC001).dueCells(0x800001, 0, 0).dueCells(128 + 63, 1, 0);
        run.call("begin").call("stage", 63, 0xC001).call("commit").dueCells(0x403FC001L, 2, 0).dueCells(3, 2, 8);
        run.due(0, "cell", 0, 159, 23).due(0, "cell", 1, 159, 7).due(0, "cell", 2, 359, 31);
        run.call("failAfter", 0).call("put", 1, 1).due(1, "cell", 0, 0, 23).due(0, "cell", 0, 0, 22);
    }

    private static void cellOfWrongInputs() {
        Run run = new Run("promise 10, wrong inputs");
        run.due(Run.INDEX, "cell", -1, 0, 0).due(Run.INDEX, "cell", 3, 0, 0);
        int[] counts = {160, 160, 360};
        int[] widths = {24, 8, 32};
        for (int what = 0; what < 3; what++) {
            run.due(Run.INDEX, "cell", what, -1, 0).due(Run.INDEX, "cell", what, counts[what], 0);
            run.due(Run.INDEX, "cell", what, 0, -1).due(Run.INDEX, "cell", what, 0, widths[what]);
            run.due(Run.INDEX, "cell", what, Integer.MAX_VALUE, 0).due(Run.INDEX, "cell", what, Integer.MIN_VALUE, 0);
            run.due(Run.INDEX, "cell", what, 0, Integer.MAX_VALUE).due(Run.INDEX, "cell", what, 0, Integer.MIN_VALUE);
        }
    }

    private static void wordsCounts() {
        Run run = new Run("promise 14");
        run.due(0, "words", 0).call("put", 0, ONES).due(1, "words", 0).call("put", 0, 0).due(1, "words", 0);
        run.call("put", 0, ONES).due(2, "words", 0).due(0, "words", 1).due(0, "words", 63);
        run.call("begin").call("stage", 63, 1).due(0, "words", 63).call("commit").due(1, "words", 63);
        run.call("failAfter", 1).call("put", 5, 5).due(0, "words", 5).due(2, "words", 0);
        run.due(Run.ARGUMENT, "words", -1).due(Run.ARGUMENT, "words", 64);
        run.due(Run.ARGUMENT, "words", Integer.MIN_VALUE).due(Run.ARGUMENT, "words", Integer.MAX_VALUE);
    }

    private static void historyTells() {
        Run run = new Run("promise 15");
        run.due(Run.INDEX, "history", 2, 0).call("put", 2, ONES).due(ONES, "history", 2, 0);
        run.call("put", 2, 0x5556).due(0x5556, "history", 2, 0).call("put", 3, 8).call("put", 2, ONES);
        run.due(0x5556, "history", 2, 0).due(ONES, "history", 2, 1).due(8, "history", 3, 0);
        run.due(Run.INDEX, "history", 2, 2).due(Run.INDEX, "history", 2, -1).due(Run.INDEX, "history", 4, 0);
        run.due(Run.INDEX, "history", 2, Integer.MAX_VALUE).due(Run.INDEX, "history", 2, Integer.MIN_VALUE);
        run.due(Run.ARGUMENT, "history", -1, 0).due(Run.ARGUMENT, "history", 64, 0);
        run.due(Run.ARGUMENT, "history", -1, -1).due(Run.ARGUMENT, "history", Integer.MAX_VALUE, 9);
        run.call("failAfter", 1).call("put", 9, 9).due(ONES, "history", 2, 1).due(Run.INDEX, "history", 9, 0);
    }

    private static void constantIsAsDue() {
        if (OnceStore.NONE != -1) {
            Run.report("NONE is " + OnceStore.NONE + ", due is -1");
        }
    }
}
