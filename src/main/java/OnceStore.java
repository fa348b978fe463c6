/**
 * Keeps numbers of 16 bits by keys in cells that can be set but never cleared.
 * The promises that it keeps are numbered in the project's document.
 */
public final class OnceStore {
    public static final int NONE = -1;

    private static final int NO_ROOM = -1;
    private static final int POWER_FAILED = -2;

    private static final int KEYS = 64;
    private static final int VALUES = 65536;
    private static final int WORDS = 160;
    private static final int WORD_CELLS = 24;
    private static final int TAG_CELLS = 8;
    private static final int TAG_USED = 128;
    private static final int GROUPS = 8;
    private static final int GROUP_CELLS = 3;
    private static final int GROUP_BITS = 2;
    private static final int ALL_GROUP_CELLS = 7;
    private static final int ALL_GROUP_BITS = 3;

    private static final int NOTES = 40;
    private static final int NOTE_LINES = 9;
    private static final int LINES = NOTES * NOTE_LINES;
    private static final int LINE_CELLS = 32;
    private static final int BATCH_LIMIT = 8;

    private static final int KEY_SHIFT = 16;
    private static final int WORD_SHIFT = 22;
    private static final int ALL_WORD_BITS = 255;
    private static final int LINE_USED = 1 << 30;

    private static final int STATE_LINE = 8;
    private static final int READY = 1;
    private static final int DONE = 3;

    private static final int FAIL_LIMIT = 1000;

    private final int[] wordRow = new int[WORDS];
    private final int[] tagRow = new int[WORDS];
    private final int[] lineRow = new int[LINES];
    private int setCells = 0;
    private int writes = 0;

    private boolean powered = true;
    private int writesToFailure = NONE;

    private final int[] stagedKeys = new int[BATCH_LIMIT];
    private final int[] stagedValues = new int[BATCH_LIMIT];
    private final int[] plannedLines = new int[BATCH_LIMIT];
    private boolean batchOpen = false;
    private int batchSize = 0;

    public OnceStore() {
    }

    public int put(int key, int value) throws IllegalArgumentException, IllegalStateException {
        if (!isKey(key) || !isValue(value)) {
            throw new IllegalArgumentException();
        }
        if (!powered || batchOpen) {
            throw new IllegalStateException();
        }
        int word = wordThatTakes(key, value, 0);
        if (word == NONE) {
            return NO_ROOM;
        }
        int before = writes;
        return writePut(key, value, word) ? writes - before : POWER_FAILED;
    }

    public int get(int key) throws IllegalArgumentException, IllegalStateException {
        if (!isKey(key)) {
            throw new IllegalArgumentException();
        }
        if (!powered) {
            throw new IllegalStateException();
        }
        int word = presentWord(key);
        return word == NONE ? NONE : meaningOfWord(wordRow[word]);
    }

    public boolean wouldMove(int key, int value)
            throws IllegalArgumentException, IllegalStateException {
        if (!isKey(key) || !isValue(value)) {
            throw new IllegalArgumentException();
        }
        if (!powered) {
            throw new IllegalStateException();
        }
        return !staysInPlace(presentWord(key), value);
    }

    public void begin() throws IllegalStateException {
        if (!powered || batchOpen) {
            throw new IllegalStateException();
        }
        batchOpen = true;
    }

    public int stage(int key, int value) throws IllegalArgumentException, IllegalStateException {
        if (!isKey(key) || !isValue(value) || isStaged(key)) {
            throw new IllegalArgumentException();
        }
        if (!powered || !batchOpen || batchSize >= BATCH_LIMIT) {
            throw new IllegalStateException();
        }
        stagedKeys[batchSize] = key;
        stagedValues[batchSize] = value;
        batchSize++;
        return batchSize;
    }

    public int commit() throws IllegalStateException {
        if (!powered || !batchOpen) {
            throw new IllegalStateException();
        }
        if (batchSize == 0) {
            closeBatch();
            return 0;
        }
        int note = lowestEmptyNote();
        if (note == NONE || !planLines()) {
            return NO_ROOM;
        }
        int before = writes;
        boolean finished = writeNote(note) && carryOutNote(note);
        closeBatch();
        return finished ? writes - before : POWER_FAILED;
    }

    public int abandon() throws IllegalStateException {
        if (!powered || !batchOpen) {
            throw new IllegalStateException();
        }
        int size = batchSize;
        closeBatch();
        return size;
    }

    public int left(int what) throws IllegalArgumentException {
        switch (what) {
            case 0:
                return countFreshWords();
            case 1:
                return countEmptyNotes();
            case 2:
                return setCells;
            case 3:
                return writes;
            default:
                throw new IllegalArgumentException();
        }
    }

    public int cell(int what, int which, int bit) throws IndexOutOfBoundsException {
        if (what == 0 && isBelow(which, WORDS) && isBelow(bit, WORD_CELLS)) {
            return (wordRow[which] >>> bit) & 1;
        }
        if (what == 1 && isBelow(which, WORDS) && isBelow(bit, TAG_CELLS)) {
            return (tagRow[which] >>> bit) & 1;
        }
        if (what == 2 && isBelow(which, LINES) && isBelow(bit, LINE_CELLS)) {
            return (lineRow[which] >>> bit) & 1;
        }
        throw new IndexOutOfBoundsException();
    }

    public void failAfter(int n) throws IllegalArgumentException, IllegalStateException {
        if (n != NONE && (n < 0 || n > FAIL_LIMIT)) {
            throw new IllegalArgumentException();
        }
        if (!powered) {
            throw new IllegalStateException();
        }
        writesToFailure = n;
    }

    public boolean isOn() {
        return powered;
    }

    public int mount() throws IllegalStateException {
        if (powered) {
            throw new IllegalStateException();
        }
        powered = true;
        writesToFailure = NONE;
        closeBatch();
        for (int note = 0; note < NOTES; note++) {
            if (lineRow[note * NOTE_LINES + STATE_LINE] == READY) {
                carryOutNote(note);
            }
        }
        return countKeysWithWords();
    }

    public int words(int key) throws IllegalArgumentException {
        if (!isKey(key)) {
            throw new IllegalArgumentException();
        }
        return countWords(key);
    }

    public int history(int key, int i) throws IllegalArgumentException, IndexOutOfBoundsException {
        if (!isKey(key)) {
            throw new IllegalArgumentException();
        }
        int word = numberedWord(key, i);
        if (word == NONE) {
            throw new IndexOutOfBoundsException();
        }
        return meaningOfWord(wordRow[word]);
    }

    private static boolean isBelow(int number, int bound) {
        return number >= 0 && number < bound;
    }

    private static boolean isKey(int key) {
        return isBelow(key, KEYS);
    }

    private static boolean isValue(int value) {
        return isBelow(value, VALUES);
    }

    private static int tagOf(int key) {
        return key + TAG_USED;
    }

    private static int meaningOfGroup(int cells) {
        int telling = Integer.bitCount(cells) > 1 ? cells ^ ALL_GROUP_CELLS : cells;
        // The third cell stands for 3, though its weight in the group is 4.
        return telling == 4 ? 3 : telling;
    }

    private static int meaningOfWord(int cells) {
        int value = 0;
        for (int group = 0; group < GROUPS; group++) {
            int now = (cells >>> GROUP_CELLS * group) & ALL_GROUP_CELLS;
            value |= meaningOfGroup(now) << GROUP_BITS * group;
        }
        return value;
    }

    /** Each two bits have just two patterns, one the other's complement; NONE if neither fits. */
    private static int patternOfGroup(int cells, int wanted) {
        int smaller = wanted == 0 ? 0 : 1 << (wanted - 1);
        if ((cells & ~smaller) == 0) {
            return smaller;
        }
        int larger = smaller ^ ALL_GROUP_CELLS;
        return (cells & ~larger) == 0 ? larger : NONE;
    }

    /** NONE if the word does not come to the value: one group that does not fit is enough. */
    private static int patternOfWord(int cells, int value) {
        int pattern = 0;
        for (int group = 0; group < GROUPS; group++) {
            int now = (cells >>> GROUP_CELLS * group) & ALL_GROUP_CELLS;
            int wanted = (value >>> GROUP_BITS * group) & ALL_GROUP_BITS;
            int part = patternOfGroup(now, wanted);
            if (part == NONE) {
                return NONE;
            }
            pattern |= part << GROUP_CELLS * group;
        }
        return pattern;
    }

    private boolean staysInPlace(int present, int value) {
        return present != NONE && patternOfWord(wordRow[present], value) != NONE;
    }

    private int presentWord(int key) {
        for (int word = WORDS - 1; word >= 0; word--) {
            if (tagRow[word] == tagOf(key)) {
                return word;
            }
        }
        return NONE;
    }

    private int numberedWord(int key, int i) {
        int before = 0;
        for (int word = 0; word < WORDS; word++) {
            if (tagRow[word] == tagOf(key)) {
                if (before == i) {
                    return word;
                }
                before++;
            }
        }
        return NONE;
    }

    private int countWords(int key) {
        int count = 0;
        for (int word = 0; word < WORDS; word++) {
            if (tagRow[word] == tagOf(key)) {
                count++;
            }
        }
        return count;
    }

    private int countKeysWithWords() {
        int count = 0;
        for (int key = 0; key < KEYS; key++) {
            if (presentWord(key) != NONE) {
                count++;
            }
        }
        return count;
    }

    private boolean isFresh(int word) {
        return wordRow[word] == 0 && tagRow[word] == 0;
    }

    private int lowestFreshWord(int from) {
        for (int word = from; word < WORDS; word++) {
            if (isFresh(word)) {
                return word;
            }
        }
        return NONE;
    }

    private int countFreshWords() {
        int count = 0;
        for (int word = 0; word < WORDS; word++) {
            if (isFresh(word)) {
                count++;
            }
        }
        return count;
    }

    private boolean isEmptyNote(int note) {
        for (int line = 0; line < NOTE_LINES; line++) {
            if (lineRow[note * NOTE_LINES + line] != 0) {
                return false;
            }
        }
        return true;
    }

    private int lowestEmptyNote() {
        for (int note = 0; note < NOTES; note++) {
            if (isEmptyNote(note)) {
                return note;
            }
        }
        return NONE;
    }

    private int countEmptyNotes() {
        int count = 0;
        for (int note = 0; note < NOTES; note++) {
            if (isEmptyNote(note)) {
                count++;
            }
        }
        return count;
    }

    /** Put and commit choose alike, but a commit passes over fresh words that it has named. */
    private int wordThatTakes(int key, int value, int freshFrom) {
        int present = presentWord(key);
        return staysInPlace(present, value) ? present : lowestFreshWord(freshFrom);
    }

    private boolean isStaged(int key) {
        for (int i = 0; i < batchSize; i++) {
            if (stagedKeys[i] == key) {
                return true;
            }
        }
        return false;
    }

    private void closeBatch() {
        batchOpen = false;
        batchSize = 0;
    }

    /** Plans all lines before one is written, so that a batch that lacks words changes nothing. */
    private boolean planLines() {
        int freshFrom = 0;
        for (int i = 0; i < batchSize; i++) {
            int key = stagedKeys[i];
            int word = wordThatTakes(key, stagedValues[i], freshFrom);
            if (word == NONE) {
                return false;
            }
            // A fresh word that an earlier line names must not be named again.
            if (isFresh(word)) {
                freshFrom = word + 1;
            }
            plannedLines[i] = lineFor(key, stagedValues[i], word);
        }
        return true;
    }

    private boolean writeNote(int note) {
        int first = note * NOTE_LINES;
        for (int i = 0; i < batchSize; i++) {
            if (!write(lineRow, first + i, plannedLines[i])) {
                return false;
            }
        }
        return write(lineRow, first + STATE_LINE, READY);
    }

    /** Reads the lines alone, since after a power failure nothing else is known of the batch. */
    private boolean carryOutNote(int note) {
        int first = note * NOTE_LINES;
        for (int i = 0; i < BATCH_LIMIT; i++) {
            int line = lineRow[first + i];
            if (namesWord(line)
                    && !writePut(keyOfLine(line), valueOfLine(line), wordOfLine(line))) {
                return false;
            }
        }
        return write(lineRow, first + STATE_LINE, DONE);
    }

    private static int lineFor(int key, int value, int word) {
        return value | (key << KEY_SHIFT) | (word << WORD_SHIFT) | LINE_USED;
    }

    private static boolean namesWord(int line) {
        return (line & LINE_USED) != 0 && wordOfLine(line) < WORDS;
    }

    private static int valueOfLine(int line) {
        return line & (VALUES - 1);
    }

    private static int keyOfLine(int line) {
        return (line >>> KEY_SHIFT) & (KEYS - 1);
    }

    private static int wordOfLine(int line) {
        return (line >>> WORD_SHIFT) & ALL_WORD_BITS;
    }

    /** The word before its tag: a word that bears a key's tag always stands for a value put. */
    private boolean writePut(int key, int value, int word) {
        return write(wordRow, word, patternOfWord(wordRow[word], value))
                && write(tagRow, word, tagOf(key));
    }

    /** False if power failed instead of the write, since the call then ends where it stands. */
    private boolean write(int[] row, int at, int cells) {
        int added = cells & ~row[at];
        if (added == 0) {
            return true;
        }
        if (writesToFailure == 0) {
            powered = false;
            return false;
        }
        if (writesToFailure > 0) {
            writesToFailure--;
        }
        row[at] |= added;
        setCells += Integer.bitCount(added);
        writes++;
        return true;
    }
}
