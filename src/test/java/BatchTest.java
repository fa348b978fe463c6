/** Promises 5 to 8: begin, stage, commit, abandon. */
public final class BatchTest {
    private static final int ONES = 0x5555;

    public static void main(String[] args) {
        beginOpens();
        stageCounts();
        stageOfWrongInputs();
        stageAfterAFailedCommit();
        commitWritesLines();
        commitMixesPresentAndFreshWords();
        commitOfNothing();
        commitWithoutFreshWords();
        commitWithoutNotes();
        commitPassesOverAbortedNotes();
        commitWhenPowerFails();
        commitOfWrongStates();
        abandonCloses();
        Run.end();
    }

    private static long line(int key, int value, int word) {
        return value | (long) key << 16 | (long) word << 22 | 1L << 30;
    }

    private static void beginOpens() {
        Run run = new Run("promise 5");
        run.due(Run.STATE, "stage", 0, 0).due("done", "begin").due(Run.STATE, "begin").due(1, "stage", 0, 0);
        run.due(Run.STATE, "begin").due(2, "stage", 1, 0).due(0, "left", 3);
        run.call("commit").due("done", "begin").due(1, "stage", 0, 0).call("abandon").due("done", "begin");
        run.call("abandon").call("failAfter", 0).call("put", 9, 9).due(Run.STATE, "begin");
        run.call("mount").due("done", "begin");
    }

    private static void stageCounts() {
        Run run = new Run("promise 6");
        run.call("begin");
        for (int key = 0; key < 8; key++) {
            run.due(key + 1, "stage", 63 - key, 65535 - key);
        }
        run.due(Run.STATE, "stage", 0, 0).due(Run.ARGUMENT, "stage", 63, 0);
        run.due(Run.ARGUMENT, "stage", 0, 65536).due(0, "left", 3).due(160, "left", 0);
        run.due(8 + 1 + 16 + 1, "commit").due(65535 - 7, "get", 56).due(-1, "get", 0);
        run.call("begin").due(1, "stage", 63, 0);
    }

    private static void stageOfWrongInputs() {
        Run run = new Run("promise 6, wrong inputs");
        int[] wrongKeys = {-1, 64, Integer.MIN_VALUE, Integer.MAX_VALUE};
        int[] wrongValues = {-1, 65536, Integer.MIN_VALUE, Integer.MAX_VALUE};
        for (int i = 0; i < 4; i++) {
            run.due(Run.ARGUMENT, "stage", wrongKeys[i], 0).due(Run.ARGUMENT, "stage", 0, wrongValues[i]);
        }
        run.due(Run.STATE, "stage", 0, 0).call("begin");
        for (int i = 0; i < 4; i++) {
            run.due(Run.ARGUMENT, "stage", wrongKeys[i], 0).due(Run.ARGUMENT, "stage", 0, wrongValues[i]);
        }
        run.due(1, "stage", 0, 5).due(Run.ARGUMENT, "stage", 0, 5).due(Run.ARGUMENT, "stage", 0, 6);
        run.due(2, "stage", 1, 5).due(2, "abandon").due(Run.STATE, "stage", 0, 5);
    }

    /** A commit that power ended has closed the batch: no key is staged any more. */
    private static void stageAfterAFailedCommit() {
        Run run = new Run("promise 6, after a failed commit");
        run.call("begin").call("stage", 3, 4).call("failAfter", 0).due(-2, "commit");
        run.due(Run.STATE, "stage", 3, 4).due(Run.STATE, "stage", 4, 4).due(Run.ARGUMENT, "stage", 64, 4);
        run.due(Run.STATE, "abandon").call("mount").due(Run.STATE, "stage", 3, 4);
        run.call("begin").due(1, "stage", 3, 4);
    }

    private static void commitWritesLines() {
        Run run = new Run("promise 7, lines");
        run.call("begin").call("stage", 63, 65535).call("stage", 0, 0).call("stage", 7, 300);
        run.due(3 + 1 + 5 + 1, "commit").due(10, "left", 3);
        run.dueCells(line(63, 65535, 0), 2, 0).dueCells(line(0, 0, 1), 2, 1).dueCells(line(7, 300, 2), 2, 2);
        run.dueCells(0, 2, 3).dueCells(3, 2, 8).dueCells(0, 2, 9).due(39, "left", 1).due(157, "left", 0);
        run.due(65535, "get", 63).due(0, "get", 0).due(300, "get", 7).due(Run.STATE, "commit");
        run.dueCells(128 + 63, 1, 0).dueCells(128, 1, 1).dueCells(128 + 7, 1, 2);
    }

    private static void commitMixesPresentAndFreshWords() {
        Run run = new Run("promise 7, present and fresh words");
        run.call("put", 1, ONES).call("put", 2, 0).call("put", 1, 0);
        run.call("begin").call("stage", 4, 9).call("stage", 1, 1).call("stage", 2, 3).call("stage", 5, 0);
        run.call("failAfter", 12).due(4 + 1 + 2 + 2 + 1 + 1 + 1, "commit").due(true, "isOn");
        run.dueCells(line(4, 9, 2), 2, 0).dueCells(line(1, 1, 3), 2, 1).dueCells(line(2, 3, 1), 2, 2);
        run.dueCells(line(5, 0, 4), 2, 3).due(2, "words", 1).due(1, "words", 2).due(3, "get", 2);
        run.call("failAfter", -1).call("begin").call("stage", 2, 3).due(3, "commit");
        run.dueCells(line(2, 3, 1), 2, 9).dueCells(3, 2, 17);
    }

    private static void commitOfNothing() {
        Run run = new Run("promise 7, no puts");
        run.call("begin").call("failAfter", 0).due(0, "commit").due(true, "isOn").due(40, "left", 1);
        run.due(Run.STATE, "commit").due("done", "begin");
    }

    /** Takes all words but a few: two puts of one key fill a word. */
    private static Run storeWithWords(String title, int left) {
        Run run = new Run(title);
        for (int i = left; i < 160; i++) {
            run.call("put", 4, ONES).call("put", 4, 0);
        }
        return run.due(left, "left", 0);
    }

    private static void commitWithoutFreshWords() {
        Run run = storeWithWords("promise 7, no fresh words", 2);
        run.call("begin").call("stage", 1, 1).call("stage", 4, 0).call("stage", 2, 2).call("stage", 3, 3);
        int writes = 158 * 3;
        run.call("failAfter", 0).due(-1, "commit").due(true, "isOn").due(writes, "left", 3);
        run.due(40, "left", 1).due(2, "left", 0).due(5, "stage", 5, 5).due(Run.STATE, "begin").due(-1, "commit");
        run.due(5, "abandon").call("failAfter", -1);
        run.call("begin").call("stage", 1, 1).call("stage", 4, 0).call("stage", 2, 2).due(3 + 1 + 4 + 1, "commit");
        run.due(0, "left", 0).call("begin").call("stage", 3, 0).due(-1, "commit").due(1, "abandon");
        run.call("begin").call("stage", 1, 0).due(4, "commit").due(0, "get", 1);
    }

    private static void commitWithoutNotes() {
        Run run = new Run("promise 7, no notes");
        for (int note = 0; note < 40; note++) {
            run.call("begin").call("stage", 0, 0).due(note == 0 ? 4 : 3, "commit").due(39 - note, "left", 1);
        }
        run.dueCells(3, 2, 359).call("begin").due(0, "commit");
        run.call("begin").call("stage", 0, 1).due(-1, "commit").due(0, "get", 0).due(2, "stage", 1, 1);
        run.due(-1, "commit").due(159, "left", 0).due(2, "abandon").due(1, "put", 0, 1);
    }

    private static void commitPassesOverAbortedNotes() {
        Run run = new Run("promise 7, a note that never was ready");
        run.call("begin").call("stage", 1, 1).call("stage", 2, 2).call("failAfter", 1).due(-2, "commit");
        run.due(39, "left", 1).due(0, "mount").dueCells(0, 2, 8);
        run.call("begin").call("stage", 3, 3).due(5, "commit").dueCells(line(3, 3, 0), 2, 9).due(38, "left", 1);
        run.dueCells(line(1, 1, 0), 2, 0).dueCells(0, 2, 1).due(-1, "get", 1);
    }

    /** Three lines, ready, five writes of puts, done: before the ready write nothing, then all. */
    private static void commitWhenPowerFails() {
        for (int n = 0; n < 10; n++) {
            boolean ready = n > 3;
            Run run = new Run("promise 7, power fails after " + n);
            run.call("put", 1, 1).call("begin").call("stage", 1, 2).call("stage", 2, 7).call("stage", 3, 5);
            run.call("failAfter", n).due(-2, "commit").due(false, "isOn").due(2 + n, "left", 3);
            run.due(Run.STATE, "commit").due(ready ? 3 : 1, "mount").due(2 + (ready ? 10 : n), "left", 3);
            run.due(ready ? 2 : 1, "get", 1).due(ready ? 7 : -1, "get", 2).due(ready ? 5 : -1, "get", 3);
            run.dueCells(ready ? 3 : 0, 2, 8).due(Run.STATE, "commit").due(n == 0 ? 40 : 39, "left", 1);
        }
        Run run = new Run("promise 7, power fails behind it");
        run.call("put", 1, 1).call("begin").call("stage", 1, 2).call("stage", 2, 7).call("stage", 3, 5);
        run.call("failAfter", 10).due(10, "commit").due(true, "isOn").due(-2, "put", 5, 5);
    }

    private static void commitOfWrongStates() {
        Run run = new Run("promise 7, wrong states");
        run.due(Run.STATE, "commit").call("failAfter", 0).call("put", 0, 1).due(Run.STATE, "commit");
        run.call("mount").due(Run.STATE, "commit").due(0, "left", 3);
    }

    private static void abandonCloses() {
        Run run = new Run("promise 8");
        run.due(Run.STATE, "abandon").call("begin").due(0, "abandon").due(Run.STATE, "abandon");
        run.call("begin").call("stage", 1, 1).call("stage", 2, 2).due(2, "abandon").due(Run.STATE, "commit");
        run.due(-1, "get", 1).due(0, "left", 3).due(40, "left", 1).due(2, "put", 1, 1);
        run.call("begin").due(1, "stage", 1, 5).due(1, "abandon");
        run.call("failAfter", 0).call("put", 9, 1).due(Run.STATE, "abandon");
    }
}
