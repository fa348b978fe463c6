import java.util.ArrayDeque;
import java.util.Deque;
import java.util.Random;

/** All promises at once: long runs of mixed calls must be answered as the plain model answers them. */
public final class ModelTest {
    private static final int RUNS = 1500;
    private static final int TOLD = 12;

    public static void main(String[] args) {
        for (int seed = 0; seed < RUNS; seed++) {
            compare(seed);
        }
        Run.end();
    }

    private static void compare(int seed) {
        Random random = new Random(seed);
        OnceStore store = new OnceStore();
        Model model = new Model();
        Deque<String> told = new ArrayDeque<>();
        int keys = 1 + random.nextInt(seed % 3 == 0 ? 64 : 6);
        int style = random.nextInt(4);
        for (int i = 0; i < Run.CALLS; i++) {
            Call call = choose(random, keys, style);
            String got = call.on(store);
            String want = call.on(model);
            told.addLast(call.text() + " -> " + got);
            if (told.size() > TOLD) {
                told.removeFirst();
            }
            if (!got.equals(want)) {
                Run.report("seed " + seed + ", call " + i + ", due is " + want + ": " + told);
                return;
            }
        }
    }

    /** The style leans a run towards puts, batches, or power that fails often. */
    private static Call choose(Random random, int keys, int style) {
        int dice = random.nextInt(100);
        int writing = style == 0 ? 70 : 40;
        if (dice < writing) {
            return style == 0 ? new Call("put", key(random, keys), value(random)) : batchCall(random, keys, style);
        }
        if (dice < writing + 8) {
            return powerCall(random, style);
        }
        return look(random, keys);
    }

    private static Call batchCall(Random random, int keys, int style) {
        switch (random.nextInt(style == 1 ? 10 : 7)) {
            case 0: return new Call("begin");
            case 1: return new Call("commit");
            case 2: return random.nextInt(8) == 0 ? new Call("abandon") : new Call("commit");
            case 3: return new Call("put", key(random, keys), value(random));
            case 4: return new Call("mount");
            default: return new Call("stage", key(random, keys), value(random));
        }
    }

    private static Call powerCall(Random random, int style) {
        switch (random.nextInt(4)) {
            case 0: return new Call("mount");
            case 1: return new Call("failAfter", style == 3 ? random.nextInt(30) : -1);
            case 2: return new Call("failAfter", odd(random) ? random.nextInt(1100) - 50 : random.nextInt(60));
            default: return new Call("isOn");
        }
    }

    private static Call look(Random random, int keys) {
        switch (random.nextInt(7)) {
            case 0: return new Call("get", key(random, keys));
            case 1: return new Call("wouldMove", key(random, keys), value(random));
            case 2: return new Call("left", random.nextInt(odd(random) ? 6 : 4) - (odd(random) ? 1 : 0));
            case 3: return new Call("words", key(random, keys));
            case 4: return new Call("history", key(random, keys), random.nextInt(odd(random) ? 40 : 3) - 1);
            case 5: return cellCall(random, random.nextInt(odd(random) ? 4 : 3), 30, 25);
            default: return cellCall(random, 2, odd(random) ? 380 : 40, 34);
        }
    }

    private static Call cellCall(Random random, int what, int rows, int bits) {
        return new Call("cell", what, random.nextInt(rows), random.nextInt(bits) - (odd(random) ? 1 : 0));
    }

    private static boolean odd(Random random) {
        return random.nextInt(20) == 0;
    }

    private static int key(Random random, int keys) {
        return odd(random) ? random.nextInt(70) - 3 : random.nextInt(keys);
    }

    /** Values of few groups too, so that a word is written over more than once. */
    private static int value(Random random) {
        switch (random.nextInt(5)) {
            case 0: return random.nextInt(65536);
            case 1: return random.nextInt(4) << 2 * random.nextInt(8);
            case 2: return random.nextInt(16);
            case 3: return odd(random) ? random.nextInt(70000) - 2000 : 0;
            default: return random.nextInt(4);
        }
    }
}
