import java.util.ArrayList;
import java.util.List;

/**
 * The document once more, written as slowly and plainly as its words: cells are booleans, patterns
 * are searched among all eight, and power that fails is an exception.
 */
final class Model {
    private static final class PowerOff extends RuntimeException {
        private static final long serialVersionUID = 1;
    }

    private final boolean[][] words = new boolean[160][24];
    private final boolean[][] tags = new boolean[160][8];
    private final boolean[][] lines = new boolean[360][32];
    private boolean on = true;
    private int failing = -1;
    private int writes = 0;
    /** The open batch as pairs of key and value, or null. */
    private List<int[]> batch = null;

    int put(int key, int value) {
        argument(key >= 0 && key <= 63 && value >= 0 && value <= 65535);
        state(on && batch == null);
        List<Integer> of = wordsOf(key);
        boolean stays = !of.isEmpty() && comesTo(last(of), value) != null;
        if (!stays && freshWords().isEmpty()) {
            return -1;
        }
        int word = stays ? last(of) : freshWords().get(0);
        int before = writes;
        try {
            write(words[word], comesTo(word, value));
            write(tags[word], bits(key + 128, 8));
        } catch (PowerOff e) {
            return -2;
        }
        return writes - before;
    }

    int get(int key) {
        argument(key >= 0 && key <= 63);
        state(on);
        List<Integer> of = wordsOf(key);
        return of.isEmpty() ? -1 : standsFor(last(of));
    }

    boolean wouldMove(int key, int value) {
        argument(key >= 0 && key <= 63 && value >= 0 && value <= 65535);
        state(on);
        List<Integer> of = wordsOf(key);
        return of.isEmpty() || comesTo(last(of), value) == null;
    }

    void begin() {
        state(on && batch == null);
        batch = new ArrayList<>();
    }

    int stage(int key, int value) {
        argument(key >= 0 && key <= 63 && value >= 0 && value <= 65535);
        argument(batch == null || batch.stream().noneMatch(put -> put[0] == key));
        state(on && batch != null && batch.size() < 8);
        batch.add(new int[] {key, value});
        return batch.size();
    }

    int commit() {
        state(on && batch != null);
        List<Integer> fresh = freshWords();
        List<Integer> takes = new ArrayList<>();
        for (int[] put : batch) {
            List<Integer> of = wordsOf(put[0]);
            if (!of.isEmpty() && comesTo(last(of), put[1]) != null) {
                takes.add(last(of));
            } else if (fresh.isEmpty()) {
                return -1;
            } else {
                takes.add(fresh.remove(0));
            }
        }
        if (!batch.isEmpty() && emptyNotes().isEmpty()) {
            return -1;
        }
        List<int[]> puts = batch;
        batch = null;
        int before = writes;
        try {
            if (!puts.isEmpty()) {
                writeNote(emptyNotes().get(0), puts, takes);
            }
        } catch (PowerOff e) {
            return -2;
        }
        return writes - before;
    }

    int abandon() {
        state(on && batch != null);
        int size = batch.size();
        batch = null;
        return size;
    }

    int left(int what) {
        argument(what >= 0 && what <= 3);
        int[] answers = {freshWords().size(), emptyNotes().size(), count(words) + count(tags) + count(lines), writes};
        return answers[what];
    }

    int cell(int what, int which, int bit) {
        boolean[][][] all = {words, tags, lines};
        index(what >= 0 && what < 3);
        index(which >= 0 && which < all[what].length);
        index(bit >= 0 && bit < all[what][which].length);
        return all[what][which][bit] ? 1 : 0;
    }

    void failAfter(int n) {
        argument(n >= -1 && n <= 1000);
        state(on);
        failing = n;
    }

    boolean isOn() {
        return on;
    }

    int mount() {
        state(!on);
        on = true;
        failing = -1;
        batch = null;
        for (int note = 0; note < 40; note++) {
            if (lines[9 * note + 8][0] && !lines[9 * note + 8][1]) {
                carryOut(note);
            }
        }
        int keys = 0;
        for (int key = 0; key < 64; key++) {
            keys += wordsOf(key).isEmpty() ? 0 : 1;
        }
        return keys;
    }

    int words(int key) {
        argument(key >= 0 && key <= 63);
        return wordsOf(key).size();
    }

    int history(int key, int i) {
        argument(key >= 0 && key <= 63);
        index(i >= 0 && i < wordsOf(key).size());
        return standsFor(wordsOf(key).get(i));
    }

    private static void argument(boolean good) {
        if (!good) {
            throw new IllegalArgumentException();
        }
    }

    private static void state(boolean good) {
        if (!good) {
            throw new IllegalStateException();
        }
    }

    private static void index(boolean good) {
        if (!good) {
            throw new IndexOutOfBoundsException();
        }
    }

    private void writeNote(int note, List<int[]> puts, List<Integer> takes) {
        for (int i = 0; i < puts.size(); i++) {
            long line = puts.get(i)[1] + 65536L * puts.get(i)[0] + 4194304L * takes.get(i) + 1073741824L;
            write(lines[9 * note + i], bits(line, 32));
        }
        write(lines[9 * note + 8], bits(1, 32));
        carryOut(note);
    }

    private void carryOut(int note) {
        for (int i = 0; i < 8; i++) {
            boolean[] line = lines[9 * note + i];
            if (line[30]) {
                int word = number(line, 22, 8);
                write(words[word], comesTo(word, number(line, 0, 16)));
                write(tags[word], bits(number(line, 16, 6) + 128, 8));
            }
        }
        write(lines[9 * note + 8], bits(3, 32));
    }

    private void write(boolean[] row, boolean[] wanted) {
        boolean sets = false;
        for (int i = 0; i < row.length; i++) {
            sets |= wanted[i] && !row[i];
        }
        if (!sets) {
            return;
        }
        if (failing == 0) {
            on = false;
            throw new PowerOff();
        }
        failing = Math.max(-1, failing - 1);
        for (int i = 0; i < row.length; i++) {
            row[i] |= wanted[i];
        }
        writes++;
    }

    private static boolean[] bits(long number, int width) {
        boolean[] row = new boolean[width];
        for (int i = 0; i < width; i++) {
            row[i] = (number >> i & 1) == 1;
        }
        return row;
    }

    private static int number(boolean[] row, int from, int width) {
        int number = 0;
        for (int i = 0; i < width; i++) {
            number += row[from + i] ? 1 << i : 0;
        }
        return number;
    }

    private static int count(boolean[][] rows) {
        int count = 0;
        for (boolean[] row : rows) {
            for (boolean cell : row) {
                count += cell ? 1 : 0;
            }
        }
        return count;
    }

    private static int last(List<Integer> of) {
        return of.get(of.size() - 1);
    }

    private List<Integer> wordsOf(int key) {
        List<Integer> of = new ArrayList<>();
        for (int word = 0; word < 160; word++) {
            if (number(tags[word], 0, 8) == key + 128) {
                of.add(word);
            }
        }
        return of;
    }

    private List<Integer> freshWords() {
        List<Integer> fresh = new ArrayList<>();
        for (int word = 0; word < 160; word++) {
            if (number(words[word], 0, 24) == 0 && number(tags[word], 0, 8) == 0) {
                fresh.add(word);
            }
        }
        return fresh;
    }

    private List<Integer> emptyNotes() {
        List<Integer> empty = new ArrayList<>();
        for (int note = 0; note < 40; note++) {
            boolean set = false;
            for (int line = 0; line < 9; line++) {
                set |= number(lines[9 * note + line], 0, 32) != 0;
            }
            if (!set) {
                empty.add(note);
            }
        }
        return empty;
    }

    /** What the eight patterns stand for, the first cell being the lowest bit. */
    private static int patternStandsFor(int pattern) {
        switch (pattern) {
            case 0b000: return 0;
            case 0b001: return 1;
            case 0b010: return 2;
            case 0b100: return 3;
            case 0b011: return 3;
            case 0b101: return 2;
            case 0b110: return 1;
            default: return 0;
        }
    }

    private int standsFor(int word) {
        int value = 0;
        for (int group = 0; group < 8; group++) {
            value += patternStandsFor(number(words[word], 3 * group, 3)) << 2 * group;
        }
        return value;
    }

    private boolean[] comesTo(int word, int value) {
        int cells = 0;
        for (int group = 0; group < 8; group++) {
            int now = number(words[word], 3 * group, 3);
            int best = -1;
            for (int pattern = 0; pattern < 8; pattern++) {
                boolean fits = (pattern & now) == now && patternStandsFor(pattern) == (value >> 2 * group & 3);
                if (fits && (best == -1 || Integer.bitCount(pattern) < Integer.bitCount(best))) {
                    best = pattern;
                }
            }
            if (best == -1) {
                return null;
            }
            cells += best << 3 * group;
        }
        return bits(cells, 24);
    }
}
