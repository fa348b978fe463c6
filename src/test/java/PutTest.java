/** Promise 2: put, and the terms on words, groups and tags. */
public final class PutTest {
    /** What each pattern of a group stands for, its first cell being bit 0. */
    private static final int[] MEANING = {0, 1, 2, 3, 3, 2, 1, 0};
    /** Two puts at most that bring a group of a fresh word to each pattern; 0 twice sets nothing. */
    private static final int[][] WAY = {{0, 0}, {1, 1}, {2, 2}, {1, 3}, {3, 3}, {1, 2}, {3, 1}, {1, 0}};
    /** The pattern that a pattern is written over with for 0, 1, 2 and 3; -1: the key moves. */
    private static final int[][] OVER = {
        {0b000, 0b001, 0b010, 0b100},
        {0b111, 0b001, 0b101, 0b011},
        {0b111, 0b110, 0b010, 0b011},
        {0b111, -1, -1, 0b011},
        {0b111, 0b110, 0b101, 0b100},
        {0b111, -1, 0b101, -1},
        {0b111, 0b110, -1, -1},
        {0b111, -1, -1, -1},
    };

    public static void main(String[] args) {
        firstPutWritesWordAndTag();
        firstPutOfZeroWritesTheTagAlone();
        lowestAndHighestKeyAndValue();
        sameValueTakesNoWrite();
        everyPatternToEveryValue();
        oneGroupThatDoesNotComeToItMovesTheKey();
        aMoveTakesTheLowestFreshWord();
        aMoveLeavesTheOldWord();
        theLastFreshWordIsTaken();
        noFreshWordForAFirstPut();
        noFreshWordForAMove();
        noFreshWordIsNeeded();
        powerFailsInsteadOfTheWordOfAFirstPut();
        powerFailsInsteadOfTheTagOfAFirstPut();
        powerFailsInsteadOfTheTagOfAFirstZero();
        powerFailsInsteadOfAWriteOver();
        powerFailsInsteadOfTheWordOfAMove();
        powerFailsInsteadOfTheTagOfAMove();
        powerFailsOnlyWhereAWriteIsDue();
        keyOrValueThatIsNone();
        refusedWhenPowerIsOff();
        refusedWhenABatchIsOpen();
        Run.end();
    }

    private static void firstPutWritesWordAndTag() {
        Run run = new Run("promise 2, first put");
        run.due(2, "put", 5, 1).dueCells(0b001, 0, 0).dueCells(128 + 5, 1, 0).due(1, "get", 5);
        run.due(2, "put", 6, 0x8003).dueCells(0x400004, 0, 1).dueCells(128 + 6, 1, 1).due(0x8003, "get", 6);
    }

    private static void firstPutOfZeroWritesTheTagAlone() {
        Run run = new Run("promise 2, no write for 0");
        run.due(1, "put", 0, 0).dueCells(0, 0, 0).dueCells(128, 1, 0).due(0, "get", 0).due(159, "left", 0);
    }

    private static void lowestAndHighestKeyAndValue() {
        Run run = new Run("promise 2, bounds");
        run.due(1, "put", 0, 0).due(2, "put", 63, 65535).dueCells(0x924924, 0, 1).dueCells(128 + 63, 1, 1);
        run.due(1, "put", 0, 65535).due(1, "put", 63, 0).due(65535, "get", 0).due(0, "get", 63);
    }

    private static void sameValueTakesNoWrite() {
        Run run = new Run("promise 2, a write that sets nothing is none");
        run.call("put", 0, 0).call("put", 1, 65535).call("put", 2, 1).call("put", 2, 2).call("put", 3, 1)
                .call("put", 3, 0);
        run.dueAndNothingElse(0, "put", 0, 0).dueAndNothingElse(0, "put", 1, 65535);
        run.dueAndNothingElse(0, "put", 2, 2).dueAndNothingElse(0, "put", 3, 0);
    }

    private static void everyPatternToEveryValue() {
        for (int group = 0; group < 8; group++) {
            for (int pattern = 0; pattern < 8; pattern++) {
                for (int wanted = 0; wanted < 4; wanted++) {
                    patternToValue(group, pattern, wanted);
                }
            }
        }
    }

    private static void patternToValue(int group, int pattern, int wanted) {
        Run run = new Run("promise 2, group " + group + ", pattern " + pattern + " to " + wanted);
        run.call("put", 7, WAY[pattern][0] << 2 * group).call("put", 7, WAY[pattern][1] << 2 * group);
        run.dueCells((long) pattern << 3 * group, 0, 0).due(MEANING[pattern] << 2 * group, "get", 7);
        int over = OVER[pattern][wanted];
        run.due(over == -1, "wouldMove", 7, wanted << 2 * group);
        run.due(over == -1 ? 2 : over == pattern ? 0 : 1, "put", 7, wanted << 2 * group);
        run.due(wanted << 2 * group, "get", 7).due(over == -1 ? 2 : 1, "words", 7);
        run.dueCells((long) (over == -1 ? pattern : over) << 3 * group, 0, 0);
        run.dueCells(over == -1 ? 1L << 3 * group + wanted - 1 : 0, 0, 1).dueCells(over == -1 ? 135 : 0, 1, 1);
    }

    private static void oneGroupThatDoesNotComeToItMovesTheKey() {
        Run run = new Run("promise 2, one group of eight");
        run.call("put", 3, 0x0001).call("put", 3, 0x0002).due(1, "put", 3, 0xC002).due(1, "words", 3);
        run.due(2, "put", 3, 0xC003).due(2, "words", 3).due(0xC003, "get", 3);
        run.dueCells(0x800005, 0, 0).dueCells(0x800004, 0, 1);
    }

    /** Words 0 and 1 are another key's, word 2 was written but got no tag, so it is not fresh. */
    private static void aMoveTakesTheLowestFreshWord() {
        Run run = new Run("promise 2, lowest fresh word");
        run.call("put", 1, 1).call("put", 2, 0).call("failAfter", 1).due(-2, "put", 3, 9).call("mount");
        run.call("put", 1, 2).due(2, "put", 1, 3).dueCells(0b100, 0, 3).dueCells(129, 1, 3).dueCells(0, 1, 2);
        run.due(2, "put", 3, 9).dueCells(128 + 3, 1, 4);
    }

    private static void aMoveLeavesTheOldWord() {
        Run run = new Run("promise 2, old word");
        run.call("put", 1, Stores.ONES).call("put", 2, 7).call("put", 1, 0).due(2, "put", 1, 0xAAAA);
        run.dueCells(Stores.ALL_CELLS, 0, 0).dueCells(129, 1, 0).dueCells(0x492492, 0, 2).dueCells(129, 1, 2);
        run.due(0xAAAA, "get", 1).due(0, "history", 1, 0).due(7, "get", 2).due(2, "words", 1);
    }

    private static void theLastFreshWordIsTaken() {
        Run run = Stores.withWordsLeft(1, "promise 2, last fresh word").due(1, "left", 0);
        run.due(2, "put", 5, 65535).due(0, "left", 0).dueCells(0x924924, 0, 159).dueCells(133, 1, 159);
        run.due(65535, "get", 5).due(-1, "put", 6, 0);
    }

    private static void noFreshWordForAFirstPut() {
        Run run = Stores.withWordsLeft(0, "promise 2, no fresh word for a first put").due(0, "left", 0);
        run.dueAndNothingElse(-1, "put", 5, 0).dueAndNothingElse(-1, "put", 63, 65535).due(-1, "get", 5);
        run.call("failAfter", 0).dueAndNothingElse(-1, "put", 5, 1).due(true, "isOn");
    }

    private static void noFreshWordForAMove() {
        Run run = Stores.withWordsLeft(0, "promise 2, no fresh word for a move")
                .due(160, "words", Stores.FILLER);
        run.dueAndNothingElse(-1, "put", Stores.FILLER, 1).due(0, "get", Stores.FILLER);
        run.call("failAfter", 0).dueAndNothingElse(-1, "put", Stores.FILLER, 65535).due(true, "isOn");
    }

    private static void noFreshWordIsNeeded() {
        Run run = Stores.withWordsLeft(1, "promise 2, none fresh and none needed");
        run.call("put", 5, 1).due(0, "left", 0).due(0, "put", 5, 1).due(1, "put", 5, 2).due(1, "put", 5, 0);
        run.due(-1, "put", 5, 1).due(0, "put", 5, 0).due(0, "put", Stores.FILLER, 0);
    }

    private static void powerFailsInsteadOfTheWordOfAFirstPut() {
        Run run = new Run("promise 2, no word of a first put").call("failAfter", 0).due(-2, "put", 0, 1);
        run.due(false, "isOn").dueCells(0, 0, 0).dueCells(0, 1, 0).due(0, "left", 3).due(160, "left", 0);
        run.due(0, "mount").due(-1, "get", 0).due(160, "left", 0).due(2, "put", 0, 1).dueCells(1, 0, 0);
    }

    private static void powerFailsInsteadOfTheTagOfAFirstPut() {
        Run run = new Run("promise 2, no tag of a first put").call("failAfter", 1).due(-2, "put", 0, 1);
        run.due(false, "isOn").dueCells(1, 0, 0).dueCells(0, 1, 0).due(1, "left", 3).due(159, "left", 0);
        run.due(0, "mount").due(-1, "get", 0).due(0, "words", 0).dueCells(0, 1, 0);
        run.due(2, "put", 0, 1).dueCells(1, 0, 1).dueCells(128, 1, 1).due(158, "left", 0);
    }

    private static void powerFailsInsteadOfTheTagOfAFirstZero() {
        Run run = new Run("promise 2, no tag of a first 0").call("failAfter", 0).due(-2, "put", 9, 0);
        run.due(false, "isOn").dueCells(0, 1, 0).due(160, "left", 0).due(0, "mount").due(-1, "get", 9);
        run.due(1, "put", 9, 0).dueCells(128 + 9, 1, 0);
    }

    private static void powerFailsInsteadOfAWriteOver() {
        Run run = new Run("promise 2, no write over").call("put", 0, 1).call("failAfter", 0)
                .due(-2, "put", 0, 2);
        run.due(false, "isOn").dueCells(1, 0, 0).due(2, "left", 3).due(1, "mount").due(1, "get", 0);
        run.due(1, "put", 0, 2).dueCells(0b101, 0, 0);
    }

    private static void powerFailsInsteadOfTheWordOfAMove() {
        Run run = new Run("promise 2, no word of a move").call("put", 0, 1).call("put", 0, 2)
                .call("failAfter", 0);
        run.due(-2, "put", 0, 3).due(false, "isOn").dueCells(0, 0, 1).due(159, "left", 0).due(1, "mount");
        run.due(2, "get", 0).due(1, "words", 0).due(2, "put", 0, 3).dueCells(0b100, 0, 1);
    }

    private static void powerFailsInsteadOfTheTagOfAMove() {
        Run run = new Run("promise 2, no tag of a move").call("put", 0, 1).call("put", 0, 2)
                .call("failAfter", 1);
        run.due(-2, "put", 0, 3).due(false, "isOn").dueCells(0b100, 0, 1).dueCells(0, 1, 1).due(158, "left", 0);
        run.due(1, "mount").due(2, "get", 0).due(1, "words", 0).due(0b10, "history", 0, 0);
        run.due(2, "put", 0, 3).dueCells(0b100, 0, 2).dueCells(128, 1, 2).due(2, "words", 0);
    }

    private static void powerFailsOnlyWhereAWriteIsDue() {
        Run run = new Run("promise 2, power lasts for the put").call("failAfter", 2).due(2, "put", 1, 3);
        run.due(true, "isOn").due(0, "put", 1, 3).due(true, "isOn").due(-2, "put", 1, 2).due(false, "isOn");
        run.call("mount").due(3, "get", 1).call("failAfter", 1).due(1, "put", 2, 0).due(true, "isOn");
    }

    private static void keyOrValueThatIsNone() {
        Run run = new Run("promise 2, key or value is none").call("put", 0, 1);
        Stores.dueWrongKeysAndValues(run, "put");
        run.due(1, "get", 0).due(159, "left", 0).due(2, "left", 3);
    }

    private static void refusedWhenPowerIsOff() {
        Run run = Stores.off("promise 2, power is off");
        run.dueAndNothingElse(Run.STATE, "put", 1, 2).dueAndNothingElse(Run.STATE, "put", 1, 1);
        run.dueAndNothingElse(Run.STATE, "put", 3, 0);
        Stores.dueWrongKeysAndValues(run, "put");
        run.call("mount").due(1, "put", 1, 2);
    }

    private static void refusedWhenABatchIsOpen() {
        Run run = new Run("promise 2, a batch is open").call("put", 1, 1).call("begin");
        run.dueAndNothingElse(Run.STATE, "put", 1, 2).call("stage", 1, 3);
        run.dueAndNothingElse(Run.STATE, "put", 1, 3).dueAndNothingElse(Run.STATE, "put", 2, 0);
        Stores.dueWrongKeysAndValues(run, "put");
        run.call("commit").due(1, "put", 1, 0);
    }
}
