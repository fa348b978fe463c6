/** Promise 4: wouldMove; PutTest asks it before each pattern's step, too. */
public final class WouldMoveTest {
    public static void main(String[] args) {
        trueWithoutAWord();
        falseWhenTheWordComesToIt();
        trueWhenTheWordDoesNot();
        theLastWordCounts();
        aBatchMayBeOpen();
        noFreshWordLeft();
        powerIsNotAsked();
        keyOrValueThatIsNone();
        refusedWhenPowerIsOff();
        Run.end();
    }

    private static void trueWithoutAWord() {
        Run run = new Run("promise 4, no word").dueAndNothingElse(true, "wouldMove", 0, 0);
        run.dueAndNothingElse(true, "wouldMove", 63, 65535).call("put", 0, 0).due(true, "wouldMove", 1, 0);
    }

    private static void falseWhenTheWordComesToIt() {
        Run run = new Run("promise 4, comes to it").call("put", 0, 1);
        run.dueAndNothingElse(false, "wouldMove", 0, 1).dueAndNothingElse(false, "wouldMove", 0, 2);
        run.due(false, "wouldMove", 0, 0).due(false, "wouldMove", 0, 65535).due(1, "get", 0);
    }

    private static void trueWhenTheWordDoesNot() {
        Run run = new Run("promise 4, does not come to it").call("put", 0, 1).call("put", 0, 2);
        run.dueAndNothingElse(true, "wouldMove", 0, 1).due(true, "wouldMove", 0, 3)
                .due(true, "wouldMove", 0, 0xFFFD);
        run.due(false, "wouldMove", 0, 2).due(false, "wouldMove", 0, 0).due(false, "wouldMove", 0, 0xFFFE);
    }

    private static void theLastWordCounts() {
        Run run = new Run("promise 4, present word").call("put", 0, 1).call("put", 0, 0)
                .due(true, "wouldMove", 0, 3);
        run.call("put", 0, 3).due(false, "wouldMove", 0, 1).due(false, "wouldMove", 0, 2);
    }

    private static void aBatchMayBeOpen() {
        Run run = new Run("promise 4, batch open").call("put", 0, 1).call("put", 0, 2).call("begin");
        run.dueAndNothingElse(true, "wouldMove", 0, 1).dueAndNothingElse(false, "wouldMove", 0, 0);
        run.call("stage", 0, 1).call("stage", 1, 0).dueAndNothingElse(true, "wouldMove", 0, 1);
        run.due(true, "wouldMove", 1, 0).call("commit").due(false, "wouldMove", 0, 1)
                .due(false, "wouldMove", 1, 0);
    }

    /** The put would answer -1, but its word does not come to the value: a move is what it needs. */
    private static void noFreshWordLeft() {
        Run run = Stores.withWordsLeft(0, "promise 4, no fresh word");
        run.due(true, "wouldMove", Stores.FILLER, 1).due(false, "wouldMove", Stores.FILLER, 0);
        run.due(true, "wouldMove", 5, 0);
    }

    private static void powerIsNotAsked() {
        Run run = new Run("promise 4, no write").call("put", 0, 1).call("failAfter", 0);
        run.dueAndNothingElse(false, "wouldMove", 0, 2).dueAndNothingElse(true, "wouldMove", 1, 2)
                .due(true, "isOn");
    }

    private static void keyOrValueThatIsNone() {
        Run run = new Run("promise 4, key or value is none").call("put", 0, 1);
        Stores.dueWrongKeysAndValues(run, "wouldMove");
        Run open = new Run("promise 4, key or value is none, batch open").call("begin");
        Stores.dueWrongKeysAndValues(open, "wouldMove");
    }

    private static void refusedWhenPowerIsOff() {
        Run run = Stores.off("promise 4, power is off");
        run.dueAndNothingElse(Run.STATE, "wouldMove", 1, 2).dueAndNothingElse(Run.STATE, "wouldMove", 2, 2);
        Stores.dueWrongKeysAndValues(run, "wouldMove");
        run.call("mount").due(false, "wouldMove", 1, 2).due(true, "wouldMove", 2, 2);
    }
}
