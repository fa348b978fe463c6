/** Promise 13: mount; CommitTest mounts after each write that a commit can fail at, PutTest likewise. */
public final class MountTest {
    public static void main(String[] args) {
        noKeys();
        keysAreCountedOnce();
        allKeys();
        aWordWithoutATagDoesNotCount();
        powerIsOnAndNotToFail();
        noBatchIsOpen();
        aNoteThatIsNotReadyIsLeft();
        aReadyNoteIsDone();
        aReadyNoteThatIsHalfDone();
        aReadyNoteThatLacksOnlyDone();
        aDoneNoteIsLeft();
        theLastNoteIsDone();
        keysOfTheNoteAreCounted();
        aNoteWithoutFreshWordsLeft();
        refusedWhenPowerIsOn();
        Run.end();
    }

    private static void noKeys() {
        new Run("promise 13, no keys").call("failAfter", 0).call("put", 0, 1).due(0, "mount").due(0, "left", 2);
    }

    private static void keysAreCountedOnce() {
        Run run = new Run("promise 13, several words").call("put", 0, 1).call("put", 63, 0).call("put", 0, 0)
                .call("put", 0, 1);
        run.due(2, "words", 0).call("failAfter", 0).due(-2, "put", 7, 1).due(2, "mount");
    }

    private static void allKeys() {
        Run run = new Run("promise 13, all keys");
        for (int key = 0; key < 64; key++) {
            run.call("put", key, key);
        }
        run.call("failAfter", 0).due(-2, "put", 0, 1).due(64, "mount").due(63, "get", 63);
    }

    private static void aWordWithoutATagDoesNotCount() {
        Run run = new Run("promise 13, no tag").call("put", 0, 1).call("failAfter", 1).due(-2, "put", 7, 1)
                .due(1, "mount");
        run.due(0, "words", 7).due(158, "left", 0).due(3, "left", 3).dueCells(0, 1, 1);
    }

    private static void powerIsOnAndNotToFail() {
        Run run = Stores.off("promise 13, on").due(1, "mount").due(true, "isOn").due(2, "put", 2, 2)
                .due(1, "put", 2, 3);
        run.due(1, "put", 2, 0).due(true, "isOn");
    }

    private static void noBatchIsOpen() {
        for (int n = 0; n < 5; n++) {
            Run run = new Run("promise 13, no batch").call("begin").call("stage", 1, 1).call("failAfter", n)
                    .due(-2, "commit");
            run.call("mount").due(Run.STATE, "commit").due(Run.STATE, "abandon").due(Run.STATE, "stage", 2, 2);
            run.due("done", "begin").due(1, "stage", 1, 3).due(1, "abandon");
        }
    }

    private static void aNoteThatIsNotReadyIsLeft() {
        Run run = new Run("promise 13, not ready").call("put", 1, 1).call("begin").call("stage", 1, 2)
                .call("stage", 2, 2);
        run.call("failAfter", 2).due(-2, "commit").due(1, "mount").due(1, "get", 1).due(-1, "get", 2)
                .due(4, "left", 3);
        run.dueCells(Stores.line(1, 2, 0), 2, 0).dueCells(Stores.line(2, 2, 1), 2, 1).dueCells(0, 2, 8);
        run.call("failAfter", 0).due(-2, "put", 1, 3).due(1, "mount").due(4, "left", 3).dueCells(0, 2, 8);
    }

    /** Only line 8's first write lies behind the failure, so mount does all eight puts. */
    private static void aReadyNoteIsDone() {
        Run run = Stores.withEightStaged("promise 13, ready").call("failAfter", 9).due(-2, "commit")
                .dueCells(1, 2, 8);
        run.due(160, "left", 0).due(0, "words", 8).due(8, "mount").dueCells(3, 2, 8).due(26, "left", 3)
                .due(152, "left", 0);
        for (int key = 8; key < 16; key++) {
            run.due(7, "get", key).due(1, "words", key).dueCells(128 + key, 1, key - 8);
        }
    }

    private static void aReadyNoteThatIsHalfDone() {
        Run run = Stores.withEightStaged("promise 13, half done").call("failAfter", 9 + 7).due(-2, "commit");
        run.due(156, "left", 0).due(0, "words", 11).dueCells(0b001100, 0, 3).due(8, "mount").due(26, "left", 3);
        run.due(7, "get", 11).due(1, "words", 10).due(1, "words", 11).due(152, "left", 0).dueCells(3, 2, 8);
    }

    private static void aReadyNoteThatLacksOnlyDone() {
        Run run = Stores.withEightStaged("promise 13, only done").call("failAfter", 25).due(-2, "commit")
                .due(25, "left", 3);
        run.dueCells(1, 2, 8).due(8, "mount").due(26, "left", 3).dueCells(3, 2, 8).due(152, "left", 0);
    }

    private static void aDoneNoteIsLeft() {
        Run run = new Run("promise 13, done").call("begin").call("stage", 1, 1).call("commit")
                .call("put", 1, 2);
        run.call("failAfter", 0).due(-2, "put", 1, 0).due(1, "mount").due(2, "get", 1).due(6, "left", 3)
                .dueCells(3, 2, 8);
        run.call("put", 1, 0).call("put", 1, 3).call("failAfter", 0).due(-2, "put", 1, 0).due(1, "mount")
                .due(3, "get", 1);
    }

    private static void theLastNoteIsDone() {
        Run run = Stores.withNotesLeft(1, "promise 13, last note").call("begin").call("stage", 9, 9)
                .call("failAfter", 2);
        run.due(-2, "commit").dueCells(1, 2, 359).due(2, "mount").dueCells(3, 2, 359).due(9, "get", 9)
                .due(0, "left", 1);
    }

    private static void keysOfTheNoteAreCounted() {
        Run run = new Run("promise 13, keys of the note").call("put", 1, 1).call("begin").call("stage", 1, 2);
        run.call("stage", 2, 2).call("stage", 3, 0).call("failAfter", 4).due(-2, "commit").due(3, "mount");
    }

    private static void aNoteWithoutFreshWordsLeft() {
        Run run = Stores.withWordsLeft(1, "promise 13, last word").call("begin").call("stage", 9, 9)
                .call("failAfter", 3);
        run.due(-2, "commit").due(0, "left", 0).due(0, "words", 9).due(2, "mount").due(9, "get", 9)
                .due(1, "words", 9);
    }

    private static void refusedWhenPowerIsOn() {
        Run run = new Run("promise 13, power is on").dueAndNothingElse(Run.STATE, "mount").call("put", 1, 1);
        run.call("failAfter", 0).dueAndNothingElse(Run.STATE, "mount").due(-2, "put", 1, 2).due(1, "mount");
        run.dueAndNothingElse(Run.STATE, "mount").call("begin").call("stage", 1, 2);
        run.dueAndNothingElse(Run.STATE, "mount").due(1, "abandon");
    }
}
