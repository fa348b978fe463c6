/** Promises 1 to 4: a new object, put, get, wouldMove. */
public final class PutTest {
    private static final int ONES = 0x5555;
    private static final int TWOS = 0xAAAA;

    public static void main(String[] args) {
        newObject();
        newObjectHasNoCellSet();
        firstPut();
        putOverSetCells();
        everyStepOfAGroup();
        groupsAreTheirOwn();
        putMoves();
        putWithoutFreshWords();
        putWhenPowerFails();
        putOfWrongInputs();
        getValues();
        wouldMoveAnswers();
        Run.end();
    }

    private static void newObject() {
        Run run = new Run("promise 1, new object");
        run.due(true, "isOn");
        run.due(160, "left", 0).due(40, "left", 1).due(0, "left", 2).due(0, "left", 3);
        run.due(-1, "get", 0).due(-1, "get", 63).due(0, "words", 0).due(0, "words", 63);
        run.due(Run.STATE, "mount").due(Run.STATE, "abandon").due(Run.STATE, "commit");
        run.due(2, "put", 0, 1).due(true, "isOn");
    }

    private static void newObjectHasNoCellSet() {
        for (int which = 0; which < 160; which++) {
            new Run("promise 1, word").dueCells(0, 0, which).dueCells(0, 1, which);
        }
        for (int which = 0; which < 360; which++) {
            new Run("promise 1, line").dueCells(0, 2, which);
        }
    }

    private static void firstPut() {
        Run run = new Run("promise 2, first put");
        run.due(2, "put", 5, 1).dueCells(1, 0, 0).dueCells(128 + 5, 1, 0);
        run.due(1, "put", 0, 0).dueCells(0, 0, 1).dueCells(128, 1, 1);
        run.due(2, "put", 63, 65535).dueCells(0x924924, 0, 2).dueCells(128 + 63, 1, 2);
        run.due(2, "put", 1, TWOS).dueCells(0x492492, 0, 3);
        run.due(0, "put", 5, 1).due(0, "put", 0, 0).due(0, "put", 63, 65535);
        run.due(156, "left", 0).due(7, "left", 3);
    }

    private static void putOverSetCells() {
        Run run = new Run("promise 2, put over");
        run.due(2, "put", 9, 1).dueCells(0b001, 0, 0);
        run.due(1, "put", 9, 2).dueCells(0b101, 0, 0).due(2, "get", 9);
        run.due(0, "put", 9, 2).dueCells(0b101, 0, 0);
        run.due(1, "put", 9, 0).dueCells(0b111, 0, 0).due(0, "get", 9);
        run.due(1, "words", 9).due(159, "left", 0);
        run.due(2, "put", 9, 1).dueCells(0b111, 0, 0).dueCells(0b001, 0, 1).due(2, "words", 9);
    }

    /** From each value to each other one by the pattern with fewer cells, told as the cells due. */
    private static void everyStepOfAGroup() {
        int[][] due = {
            {0b000, 0b001, 0b010, 0b100},
            {0b111, 0b001, 0b101, 0b011},
            {0b111, 0b110, 0b010, 0b011},
            {0b111, 0b110, 0b101, 0b100},
        };
        for (int group = 0; group < 8; group++) {
            for (int from = 0; from < 4; from++) {
                for (int to = 0; to < 4; to++) {
                    Run run = new Run("promise 2, group " + group + " from " + from + " to " + to);
                    run.call("put", 7, from << 2 * group).due(from == to ? 0 : 1, "put", 7, to << 2 * group);
                    run.due(to << 2 * group, "get", 7).dueCells((long) due[from][to] << 3 * group, 0, 0);
                }
            }
        }
    }

    private static void groupsAreTheirOwn() {
        Run run = new Run("promise 2, one group that does not allow it moves the word");
        run.call("put", 3, 0x0001).call("put", 3, 0x0002).due(1, "put", 3, 0xC002);
        run.due(1, "words", 3).due(0xC002, "get", 3);
        run.due(2, "put", 3, 0xC003).due(2, "words", 3).due(0xC002, "history", 3, 0);
        run.dueCells(0x800004, 0, 1).due(0xC003, "get", 3);
    }

    private static void putMoves() {
        Run run = new Run("promise 2, moves");
        run.call("put", 1, ONES).call("put", 2, 7).call("put", 1, 0).due(2, "put", 1, TWOS);
        run.dueCells(0xFFFFFF, 0, 0).dueCells(129, 1, 0).dueCells(0x492492, 0, 2).dueCells(129, 1, 2);
        run.due(TWOS, "get", 1).due(7, "get", 2).due(2, "words", 1);
    }

    /** Two puts fill a word, so 320 of them take all words. */
    private static Run fullStore(String title) {
        Run run = new Run(title);
        for (int i = 0; i < 160; i++) {
            run.due(2, "put", 4, ONES).due(1, "put", 4, 0);
        }
        return run.due(0, "left", 0);
    }

    private static void putWithoutFreshWords() {
        Run run = fullStore("promise 2, no fresh word");
        run.due(160, "words", 4).due(480, "left", 3);
        run.due(-1, "put", 4, 1).due(-1, "put", 5, 0).due(0, "put", 4, 0);
        run.due(0, "get", 4).due(-1, "get", 5).due(480, "left", 3).due(160 * 26, "left", 2);
        run.call("failAfter", 0).due(-1, "put", 4, 1).due(true, "isOn");
        run.due(true, "wouldMove", 4, 1).due(false, "wouldMove", 4, 0).due(true, "wouldMove", 5, 0);
    }

    private static void putWhenPowerFails() {
        Run run = new Run("promise 2, power fails");
        run.call("failAfter", 0).due(-2, "put", 0, 1).due(false, "isOn").due(160, "left", 0);
        run.due(0, "left", 3).call("mount").due(-1, "get", 0);
        run.call("failAfter", 1).due(-2, "put", 0, 1).due(159, "left", 0).dueCells(1, 0, 0).dueCells(0, 1, 0);
        run.due(1, "left", 3).call("mount").due(-1, "get", 0).due(0, "words", 0);
        run.call("failAfter", 0).due(-2, "put", 0, 0).due(159, "left", 0).call("mount");
        run.call("failAfter", 1).due(1, "put", 0, 0).due(true, "isOn").dueCells(128, 1, 1);
        run.due(0, "put", 0, 0).due(true, "isOn");
        run.due(-2, "put", 0, 3).due(false, "isOn").call("mount").due(0, "get", 0);
        run.call("failAfter", 2).due(2, "put", 1, 3).due(true, "isOn").due(-2, "put", 1, 2);
        run.call("mount").due(3, "get", 1);
    }

    private static void putOfWrongInputs() {
        Run run = new Run("promise 2, wrong inputs");
        wrongKeysAndValues(run, "put");
        run.due(160, "left", 0).due(0, "left", 3);
        run.call("begin").due(Run.STATE, "put", 0, 0);
        wrongKeysAndValues(run, "put");
        run.call("abandon").due(1, "put", 0, 0);
        run.call("failAfter", 0).call("put", 0, 1).due(Run.STATE, "put", 0, 0);
        wrongKeysAndValues(run, "put");
    }

    private static void wrongKeysAndValues(Run run, String name) {
        run.due(Run.ARGUMENT, name, -1, 0).due(Run.ARGUMENT, name, 64, 0);
        run.due(Run.ARGUMENT, name, Integer.MIN_VALUE, 0).due(Run.ARGUMENT, name, Integer.MAX_VALUE, 0);
        run.due(Run.ARGUMENT, name, 0, -1).due(Run.ARGUMENT, name, 0, 65536);
        run.due(Run.ARGUMENT, name, 0, Integer.MIN_VALUE).due(Run.ARGUMENT, name, 0, Integer.MAX_VALUE);
    }

    private static void getValues() {
        Run run = new Run("promise 3");
        run.due(-1, "get", 20).call("put", 20, 12345).due(12345, "get", 20).due(-1, "get", 21);
        run.call("put", 20, 54321).due(54321, "get", 20).call("put", 20, 0).due(0, "get", 20);
        run.call("begin").call("stage", 20, 99).due(0, "get", 20).call("abandon").due(0, "get", 20);
        run.due(Run.ARGUMENT, "get", -1).due(Run.ARGUMENT, "get", 64);
        run.call("failAfter", 0).call("put", 30, 1).due(Run.STATE, "get", 20).due(Run.STATE, "get", 30);
        run.due(Run.ARGUMENT, "get", -1).due(Run.ARGUMENT, "get", Integer.MAX_VALUE);
        run.call("mount").due(0, "get", 20);
    }

    private static void wouldMoveAnswers() {
        Run run = new Run("promise 4");
        run.due(true, "wouldMove", 0, 0).due(true, "wouldMove", 63, 65535);
        run.call("put", 0, 1).due(false, "wouldMove", 0, 1).due(false, "wouldMove", 0, 2);
        run.call("put", 0, 2).due(true, "wouldMove", 0, 1).due(true, "wouldMove", 0, 3);
        run.due(false, "wouldMove", 0, 0).due(false, "wouldMove", 0, 0xFFFE).due(3, "left", 3);
        run.call("begin").call("stage", 0, 1).due(true, "wouldMove", 0, 1).due(false, "wouldMove", 0, 0);
        wrongKeysAndValues(run, "wouldMove");
        run.call("abandon").call("failAfter", 0).due(true, "wouldMove", 0, 1).due(true, "isOn");
        run.call("put", 0, 1).due(Run.STATE, "wouldMove", 0, 1);
        wrongKeysAndValues(run, "wouldMove");
    }
}
