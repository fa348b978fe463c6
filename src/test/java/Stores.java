/** Runs that have brought a store to where a boundary lies. */
final class Stores {
    /** Sets the first cell of each group; a put of 0 then sets the two others. */
    static final int ONES = 0x5555;
    static final int ALL_CELLS = 0xFFFFFF;

    static final int[] WRONG_KEYS = {-1, 64, Integer.MIN_VALUE, Integer.MAX_VALUE};
    static final int[] WRONG_VALUES = {-1, 65536, Integer.MIN_VALUE, Integer.MAX_VALUE};

    /** The key that uses up the words, and so comes to no value but 0. */
    static final int FILLER = 4;

    private Stores() {
    }

    /** Two puts of one key fill a word, so 320 calls take all of them. */
    static Run withWordsLeft(int left, String title) {
        Run run = new Run(title);
        for (int word = left; word < 160; word++) {
            run.call("put", FILLER, ONES).call("put", FILLER, 0);
        }
        return run;
    }

    /** Each note is taken by one put of 0 to key 0, which sets nothing but the first time. */
    static Run withNotesLeft(int left, String title) {
        Run run = new Run(title);
        for (int note = left; note < 40; note++) {
            run.call("begin").call("stage", 0, 0).call("commit");
        }
        return run;
    }

    /** Key 1 stands for 1, and power failed instead of the first write of another put. */
    static Run off(String title) {
        return new Run(title).call("put", 1, 1).call("failAfter", 0).call("put", 2, 2);
    }

    /** Keys 8 to 15 are staged with 7. */
    static Run withEightStaged(String title) {
        return new Run(title).call("begin").stageMany(8, 8, 7);
    }

    static long line(int key, int value, int word) {
        return value | (long) key << 16 | (long) word << 22 | 1L << 30;
    }

    /** Every key and every value that is none is refused, and nothing is changed. */
    static void dueWrongKeysAndValues(Run run, String name) {
        for (int key : WRONG_KEYS) {
            run.dueAndNothingElse(Run.ARGUMENT, name, key, 0).dueAndNothingElse(Run.ARGUMENT, name, key, 65536);
        }
        for (int value : WRONG_VALUES) {
            run.dueAndNothingElse(Run.ARGUMENT, name, 0, value)
                    .dueAndNothingElse(Run.ARGUMENT, name, 63, value);
        }
    }

    static void dueWrongKeys(Run run, String name) {
        for (int key : WRONG_KEYS) {
            run.dueAndNothingElse(Run.ARGUMENT, name, key);
        }
    }
}
