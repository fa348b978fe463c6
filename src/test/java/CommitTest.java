import java.util.ArrayList;
import java.util.List;

/** Promise 7: commit, and the terms on notes and lines. */
public final class CommitTest {
    public static void main(String[] args) {
        noPutsTakeNoWrites();
        noPutsWithoutNotesAndFreshWords();
        onePut();
        linesStandInTheOrderOfStaging();
        highestKeyValueAndWord();
        eightPuts();
        aPutThatSetsNothing();
        presentWordOrFreshOne();
        presentWordsTakeNoFreshOne();
        notesAreTakenFromTheLowest();
        theLastNoteIsTaken();
        aNoteThatIsNotReadyIsNotTakenAgain();
        theBatchIsOpenNoMore();
        justEnoughFreshWords();
        oneFreshWordTooFew();
        noFreshWord();
        noNoteLeft();
        roomAfterOneWithoutRoom();
        noRoomAndPowerToFail();
        powerFailsInsteadOfEachWrite();
        powerFailsInsteadOfEachWriteOfEightPuts();
        powerLastsForTheCommit();
        refusedWhenNoBatchIsOpen();
        refusedWhenPowerIsOff();
        Run.end();
    }

    private static void noPutsTakeNoWrites() {
        Run run = new Run("promise 7, no puts").call("begin").call("failAfter", 0).due(0, "commit")
                .due(true, "isOn");
        run.due(40, "left", 1).due(0, "left", 2).due(0, "left", 3).due(Run.STATE, "commit")
                .due("done", "begin");
    }

    private static void noPutsWithoutNotesAndFreshWords() {
        Run run = Stores.withNotesLeft(0, "promise 7, no puts and no note").due(0, "left", 1);
        run.call("begin").due(0, "commit").due(Run.STATE, "abandon");
        run = Stores.withWordsLeft(0, "promise 7, no puts and no fresh word").due(0, "left", 0);
        run.call("begin").due(0, "commit").due(Run.STATE, "abandon");
    }

    private static void onePut() {
        Run run = new Run("promise 7, one put").call("begin").call("stage", 7, 300)
                .due(1 + 1 + 2 + 1, "commit");
        run.dueCells(Stores.line(7, 300, 0), 2, 0).dueCells(0, 2, 1).dueCells(3, 2, 8).dueCells(135, 1, 0);
        run.due(300, "get", 7).due(39, "left", 1).due(159, "left", 0).due(5, "left", 3);
    }

    private static void linesStandInTheOrderOfStaging() {
        Run run = new Run("promise 7, order").call("begin").call("stage", 63, 65535).call("stage", 0, 0)
                .call("stage", 7, 300);
        run.due(3 + 1 + 5 + 1, "commit").dueCells(Stores.line(63, 65535, 0), 2, 0)
                .dueCells(Stores.line(0, 0, 1), 2, 1);
        run.dueCells(Stores.line(7, 300, 2), 2, 2).dueCells(0, 2, 3).dueCells(3, 2, 8).dueCells(0, 2, 9);
        run.dueCells(128 + 63, 1, 0).dueCells(128, 1, 1).dueCells(128 + 7, 1, 2);
        run.due(65535, "get", 63).due(0, "get", 0).due(300, "get", 7);
    }

    private static void highestKeyValueAndWord() {
        Run run = Stores.withWordsLeft(1, "promise 7, highest").call("begin").call("stage", 63, 65535)
                .due(5, "commit");
        run.dueCells(0x67FFFFFFL, 2, 0).dueCells(0x924924, 0, 159).dueCells(191, 1, 159).due(65535, "get", 63);
    }

    private static void eightPuts() {
        Run run = Stores.withEightStaged("promise 7, eight puts").due(8 + 1 + 16 + 1, "commit")
                .due(152, "left", 0);
        for (int i = 0; i < 8; i++) {
            run.dueCells(Stores.line(8 + i, 7, i), 2, i).dueCells(0b001100, 0, i).dueCells(136 + i, 1, i);
            run.due(7, "get", 8 + i).due(1, "words", 8 + i);
        }
        run.dueCells(3, 2, 8).dueCells(0, 2, 9).due(39, "left", 1);
    }

    private static void aPutThatSetsNothing() {
        Run run = new Run("promise 7, sets nothing").call("put", 2, 3).call("begin").call("stage", 2, 3);
        run.due(1 + 1 + 0 + 1, "commit").dueCells(Stores.line(2, 3, 0), 2, 0).dueCells(3, 2, 8)
                .due(5, "left", 3);
        run = new Run("promise 7, a first 0").call("begin").call("stage", 2, 0).due(1 + 1 + 1 + 1, "commit");
        run.dueCells(Stores.line(2, 0, 0), 2, 0).dueCells(130, 1, 0).dueCells(0, 0, 0);
    }

    private static void presentWordOrFreshOne() {
        Run run = new Run("promise 7, present or fresh").call("put", 1, Stores.ONES).call("put", 2, 0)
                .call("put", 1, 0);
        run.call("begin").call("stage", 4, 9).call("stage", 1, 1).call("stage", 2, 3).call("stage", 5, 0);
        run.due(4 + 1 + (2 + 2 + 1 + 1) + 1, "commit");
        run.dueCells(Stores.line(4, 9, 2), 2, 0).dueCells(Stores.line(1, 1, 3), 2, 1);
        run.dueCells(Stores.line(2, 3, 1), 2, 2).dueCells(Stores.line(5, 0, 4), 2, 3);
        run.due(9, "get", 4).due(1, "get", 1).due(3, "get", 2).due(0, "get", 5).due(2, "words", 1)
                .due(1, "words", 2);
    }

    private static void presentWordsTakeNoFreshOne() {
        Run run = Stores.withWordsLeft(1, "promise 7, present words").call("put", 1, 1).due(0, "left", 0);
        run.call("begin").call("stage", 1, 2).call("stage", Stores.FILLER, 0).due(2 + 1 + 1 + 1, "commit")
                .due(2, "get", 1);
        run.dueCells(Stores.line(1, 2, 159), 2, 0).dueCells(Stores.line(Stores.FILLER, 0, 158), 2, 1);
    }

    private static void notesAreTakenFromTheLowest() {
        Run run = Stores.withNotesLeft(38, "promise 7, lowest note").call("begin").call("stage", 9, 9)
                .due(5, "commit");
        run.dueCells(Stores.line(9, 9, 1), 2, 18).dueCells(3, 2, 26).dueCells(0, 2, 27).due(37, "left", 1);
    }

    private static void theLastNoteIsTaken() {
        Run run = Stores.withNotesLeft(1, "promise 7, last note").due(1, "left", 1).call("begin")
                .stageMany(10, 8, 65535);
        run.due(26, "commit").due(0, "left", 1).dueCells(Stores.line(10, 65535, 1), 2, 351);
        run.dueCells(Stores.line(17, 65535, 8), 2, 358).dueCells(3, 2, 359);
    }

    private static void aNoteThatIsNotReadyIsNotTakenAgain() {
        Run run = new Run("promise 7, a note that is not ready").call("begin").call("stage", 1, 1)
                .call("stage", 2, 2);
        run.call("failAfter", 1).due(-2, "commit").due(0, "mount").due(39, "left", 1).due(160, "left", 0);
        run.call("begin").call("stage", 3, 3).due(5, "commit").dueCells(Stores.line(3, 3, 0), 2, 9)
                .dueCells(3, 2, 17);
        run.dueCells(Stores.line(1, 1, 0), 2, 0).dueCells(0, 2, 1).dueCells(0, 2, 8).due(-1, "get", 1)
                .due(38, "left", 1);
    }

    private static void theBatchIsOpenNoMore() {
        Run run = new Run("promise 7, open no more").call("begin").call("stage", 1, 1).due(5, "commit");
        run.due(Run.STATE, "commit").due(Run.STATE, "abandon").due(Run.STATE, "stage", 2, 2)
                .due(1, "put", 1, 2);
    }

    private static void justEnoughFreshWords() {
        Run run = Stores.withWordsLeft(2, "promise 7, just enough").call("begin").call("stage", 1, 1);
        run.call("stage", Stores.FILLER, 0).call("stage", 2, 2).due(3 + 1 + 4 + 1, "commit").due(0, "left", 0);
        run.dueCells(Stores.line(1, 1, 158), 2, 0).dueCells(Stores.line(2, 2, 159), 2, 2).due(2, "get", 2);
    }

    private static void oneFreshWordTooFew() {
        Run run = Stores.withWordsLeft(2, "promise 7, one too few").call("begin").call("stage", 1, 1);
        run.call("stage", Stores.FILLER, 3).call("stage", 2, 2).dueAndNothingElse(-1, "commit")
                .due(2, "left", 0);
        run.due(4, "stage", 3, 3).dueAndNothingElse(-1, "commit").due(Run.STATE, "begin").due(4, "abandon");
        run.due(2, "put", 1, 1);
    }

    private static void noFreshWord() {
        Run run = Stores.withWordsLeft(0, "promise 7, no fresh word").call("begin").call("stage", 3, 0);
        run.dueAndNothingElse(-1, "commit").due(40, "left", 1).due(-1, "get", 3).due(1, "abandon");
        run.call("begin").call("stage", Stores.FILLER, 1).dueAndNothingElse(-1, "commit").due(1, "abandon");
        run.call("begin").call("stage", Stores.FILLER, 0).due(3, "commit");
    }

    private static void noNoteLeft() {
        Run run = Stores.withNotesLeft(0, "promise 7, no note").call("begin").call("stage", 0, 1);
        run.dueAndNothingElse(-1, "commit").due(0, "get", 0).due(2, "stage", 1, 1)
                .dueAndNothingElse(-1, "commit");
        run.due(159, "left", 0).due(2, "abandon").due(1, "put", 0, 1);
        run.call("begin").call("stage", 0, 1).dueAndNothingElse(-1, "commit").due(1, "abandon");
    }

    private static void roomAfterOneWithoutRoom() {
        Run run = Stores.withWordsLeft(1, "promise 7, without room, then with").call("begin")
                .stageMany(10, 2, 1);
        run.due(-1, "commit").due(2, "abandon").call("begin").stageMany(11, 1, 1).due(5, "commit");
        run.dueCells(Stores.line(11, 1, 159), 2, 0).dueCells(0, 2, 1).due(-1, "get", 10).due(1, "get", 11);
    }

    private static void noRoomAndPowerToFail() {
        Run run = Stores.withNotesLeft(0, "promise 7, no note, power to fail").call("begin")
                .call("stage", 1, 1);
        run.call("failAfter", 0).dueAndNothingElse(-1, "commit").due(true, "isOn").due(1, "abandon")
                .due(-2, "put", 1, 1);
        run = Stores.withWordsLeft(0, "promise 7, no word, power to fail").call("begin").call("stage", 1, 1);
        run.call("failAfter", 0).dueAndNothingElse(-1, "commit").due(true, "isOn").due(1, "abandon");
    }

    /** Key 1 is written over, key 2 moves, key 3 gets a first word, key 5 a first word for 0. */
    private static Run mixedBatch(String title) {
        Run run = new Run(title).call("put", 1, 1).call("put", 2, 1).call("put", 2, 2);
        run.call("begin").call("stage", 1, 3).call("stage", 2, 3).call("stage", 3, 65535).call("stage", 5, 0);
        return run;
    }

    /** The writes of that commit as they follow each other: kind, row, all its set cells, those before. */
    private static final long[][] WRITES = {
        {2, 0, Stores.line(1, 3, 0), 0},
        {2, 1, Stores.line(2, 3, 2), 0},
        {2, 2, Stores.line(3, 65535, 3), 0},
        {2, 3, Stores.line(5, 0, 4), 0},
        {2, 8, 1, 0},
        {0, 0, 0b011, 0b001},
        {0, 2, 0b100, 0},
        {1, 2, 130, 0},
        {0, 3, 0x924924, 0},
        {1, 3, 131, 0},
        {1, 4, 133, 0},
        {2, 8, 3, 1},
    };
    private static final int READY_AFTER = 5;

    private static void powerFailsInsteadOfEachWrite() {
        List<String> none = mixedBatch("promise 7, before").cells();
        for (int n = 0; n < WRITES.length; n++) {
            boolean ready = n >= READY_AFTER;
            Run run = mixedBatch("promise 7, power fails after " + n).call("failAfter", n);
            run.due(-2, "commit").due(false, "isOn").due(5 + n, "left", 3);
            dueWrites(run, n);
            run.due(n == 0 ? 40 : 39, "left", 1).dueAndNothingElse(Run.STATE, "commit");
            run.due(ready ? 4 : 2, "mount").due(5 + (ready ? WRITES.length : n), "left", 3);
            dueWrites(run, ready ? WRITES.length : n);
            run.due(ready ? 3 : 1, "get", 1).due(ready ? 3 : 2, "get", 2).due(ready ? 65535 : -1, "get", 3);
            run.due(ready ? 0 : -1, "get", 5).due(Run.STATE, "commit").due("done", "begin").due(0, "abandon");
            if (n == 0 && !run.cells().equals(none)) {
                Run.report("promise 7, power fails instead of the first write: " + run.cells());
            }
        }
    }

    private static void dueWrites(Run run, int made) {
        for (int i = 0; i < WRITES.length; i++) {
            long[] write = WRITES[i];
            boolean overwritten = i == READY_AFTER - 1 && made == WRITES.length;
            if (i < made && !overwritten) {
                run.dueCells(write[2], (int) write[0], (int) write[1]);
            } else if (i >= made && (i != WRITES.length - 1 || made >= READY_AFTER)) {
                run.dueCells(write[3], (int) write[0], (int) write[1]);
            }
        }
    }

    private static void powerFailsInsteadOfEachWriteOfEightPuts() {
        Run whole = Stores.withEightStaged("promise 7, eight puts").call("commit");
        List<String> all = new ArrayList<>(whole.cells());
        for (int n = 0; n < 26; n++) {
            Run run = Stores.withEightStaged("promise 7, eight puts, power fails after " + n)
                    .call("failAfter", n);
            run.due(-2, "commit").due(n, "left", 3).due(n >= 9 ? 8 : 0, "mount")
                    .due(n >= 9 ? 26 : n, "left", 3);
            for (int key = 8; key < 16; key++) {
                run.due(n >= 9 ? 7 : -1, "get", key).due(n >= 9 ? 1 : 0, "words", key);
            }
            if (n >= 9 && !run.cells().equals(all)) {
                Run.report("promise 7, eight puts, power fails after " + n + ": " + run.cells() + ", due is " + all);
            }
        }
    }

    private static void powerLastsForTheCommit() {
        Run run = mixedBatch("promise 7, power lasts").call("failAfter", WRITES.length)
                .due(WRITES.length, "commit");
        run.due(true, "isOn").due(-2, "put", 9, 0).due(false, "isOn");
        dueWrites(run, WRITES.length);
    }

    private static void refusedWhenNoBatchIsOpen() {
        Run run = new Run("promise 7, no batch").dueAndNothingElse(Run.STATE, "commit").call("begin")
                .call("stage", 1, 1);
        run.call("abandon").dueAndNothingElse(Run.STATE, "commit").due(0, "left", 3);
        run.call("begin").call("stage", 1, 1).call("commit").dueAndNothingElse(Run.STATE, "commit");
    }

    private static void refusedWhenPowerIsOff() {
        Run run = Stores.off("promise 7, power is off").dueAndNothingElse(Run.STATE, "commit");
        run.call("mount").due(Run.STATE, "commit");
    }
}
