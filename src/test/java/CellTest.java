/** Promise 10: cell. */
public final class CellTest {
    public static void main(String[] args) {
        cellsOfAWordFromTheLowest();
        cellsOfATag();
        cellsOfALine();
        highestRows();
        lowestAndHighestCellOfEachKind();
        whatThatIsNone();
        whichThatIsNone();
        bitThatIsNone();
        askedWhilePowerIsOffOrABatchOpen();
        Run.end();
    }

    private static void cellsOfAWordFromTheLowest() {
        Run run = new Run("promise 10, word").call("put", 0, 0xC001);
        for (int bit = 0; bit < 24; bit++) {
            run.due(bit == 0 || bit == 23 ? 1 : 0, "cell", 0, 0, bit).due(0, "cell", 0, 1, bit);
        }
    }

    private static void cellsOfATag() {
        Run run = new Run("promise 10, tag").call("put", 42, 0);
        for (int bit = 0; bit < 8; bit++) {
            run.due((128 + 42) >> bit & 1, "cell", 1, 0, bit).due(0, "cell", 1, 1, bit)
                    .due(0, "cell", 0, 0, bit);
        }
    }

    private static void cellsOfALine() {
        Run run = new Run("promise 10, line").call("begin").call("stage", 42, 0x8001).call("commit");
        for (int bit = 0; bit < 32; bit++) {
            boolean set = bit == 0 || bit == 15 || bit == 17 || bit == 19 || bit == 21 || bit == 30;
            run.due(set ? 1 : 0, "cell", 2, 0, bit).due(bit < 2 ? 1 : 0, "cell", 2, 8, bit)
                    .due(0, "cell", 2, 9, bit);
        }
    }

    private static void highestRows() {
        Run run = Stores.withWordsLeft(1, "promise 10, last word").call("put", 63, 65535);
        run.due(1, "cell", 0, 159, 23).due(0, "cell", 0, 159, 22).due(1, "cell", 1, 159, 7)
                .due(0, "cell", 1, 159, 6);
        run = Stores.withNotesLeft(0, "promise 10, last note").due(1, "cell", 2, 359, 0)
                .due(1, "cell", 2, 359, 1);
        run.due(0, "cell", 2, 359, 2).due(1, "cell", 2, 351, 30).due(0, "cell", 2, 352, 30);
    }

    private static void lowestAndHighestCellOfEachKind() {
        for (int what = 0; what < 3; what++) {
            Run run = new Run("promise 10, bounds of kind " + what);
            int row = Image.ROWS[what] - 1;
            int bit = Image.WIDTHS[what] - 1;
            run.dueAndNothingElse(0, "cell", what, 0, 0).dueAndNothingElse(0, "cell", what, row, bit);
            run.due(0, "cell", what, 0, bit).due(0, "cell", what, row, 0);
        }
    }

    private static void whatThatIsNone() {
        for (int what : new int[] {-1, 3, Integer.MIN_VALUE, Integer.MAX_VALUE}) {
            new Run("promise 10, what").dueAndNothingElse(Run.INDEX, "cell", what, 0, 0);
            Stores.off("promise 10, what, power off").dueAndNothingElse(Run.INDEX, "cell", what, 0, 0);
        }
    }

    private static void whichThatIsNone() {
        for (int what = 0; what < 3; what++) {
            Run run = new Run("promise 10, which of kind " + what);
            for (int which : new int[] {-1, Image.ROWS[what], Integer.MIN_VALUE, Integer.MAX_VALUE}) {
                run.dueAndNothingElse(Run.INDEX, "cell", what, which, 0);
                run.due(Run.INDEX, "cell", what, which, Image.WIDTHS[what] - 1);
            }
        }
    }

    private static void bitThatIsNone() {
        for (int what = 0; what < 3; what++) {
            Run run = new Run("promise 10, bit of kind " + what);
            for (int bit : new int[] {-1, Image.WIDTHS[what], 64, Integer.MIN_VALUE, Integer.MAX_VALUE}) {
                run.dueAndNothingElse(Run.INDEX, "cell", what, 0, bit);
                run.due(Run.INDEX, "cell", what, Image.ROWS[what] - 1, bit);
            }
        }
    }

    private static void askedWhilePowerIsOffOrABatchOpen() {
        Run run = Stores.off("promise 10, power off").dueAndNothingElse(1, "cell", 0, 0, 0)
                .due(1, "cell", 1, 0, 7);
        run.due(0, "cell", 2, 0, 30).due(Run.INDEX, "cell", 0, 0, 24).call("mount").call("begin")
                .call("stage", 2, 2);
        run.dueAndNothingElse(1, "cell", 0, 0, 0).due(1, "cell", 1, 0, 7).due(0, "cell", 2, 0, 30);
        run.due(Run.INDEX, "cell", 2, 360, 0);
    }
}
