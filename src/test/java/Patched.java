import java.util.Arrays;
import java.util.HashMap;
import java.util.List;
import java.util.Map;

/** Objects whose row has a packed row of the tests' own, patched over one that is as long. */
final class Patched {
    private static final int FILL = 200;
    /** How files are made whose packed row is so long: {seed, drawn bytes, bytes}; by length, most bytes and log. */
    private static final Map<List<Integer>, int[]> FOUND = new HashMap<>();

    private Patched() {
    }

    /** Drawn bytes, and one that is always the same up to the size; the first ones in file 0, the others in file 1. */
    private static SharedBlocks put(int[] made, int first, int log, boolean fragments) {
        SharedBlocks x = new SharedBlocks();
        int drawn = made[1];
        int size = made[2];
        int state = made[0];
        for (int i = 0; i < drawn; i++) {
            if (i == 0 || i == first) {
                x.fill(i < first ? 0 : 1, 1, state, i < first ? Math.min(first, drawn) : drawn - first);
            }
            state = 1103515245 * state + 12345;
        }
        if (first > drawn) {
            x.fill(0, 0, FILL, first - drawn);
        }
        if (size > Math.max(drawn, first)) {
            x.fill(1, 0, FILL, size - Math.max(drawn, first));
        }
        x.put(log, true, fragments);
        return x;
    }

    private static int packedLength(SharedBlocks x, boolean fragments) {
        return fragments ? x.fragment(0, 1) : x.number(0, 0);
    }

    /** The largest file that is packed in so many bytes; it has just the most bytes where it is a block. */
    private static int[] find(int length, int most, int log, boolean fragments) {
        for (int size = most; size > 10; size = size * 3 / 4) {
            for (int seed = 1; seed < 4; seed++) {
                int drawn = Math.max(0, length - 70 - 30 * (size / 4096));
                for (int n = 0; n < length && drawn < size; drawn++) {
                    int[] made = {seed, drawn, size};
                    n = packedLength(put(made, size, log, fragments), fragments);
                    if (n == length) {
                        return made;
                    }
                }
            }
            if (!fragments) {
                break;
            }
        }
        return null;
    }

    private static SharedBlocks holding(byte[] packed, int most, int first, int log, boolean fragments) {
        List<Integer> key = Arrays.asList(packed.length, most, log, fragments ? 1 : 0);
        int[] found = FOUND.containsKey(key) ? FOUND.get(key) : find(packed.length, most, log, fragments);
        FOUND.put(key, found);
        Due.holds("a row of " + packed.length + " bytes can be made for " + most, found != null);
        if (found == null) {
            return null;
        }
        SharedBlocks x = put(found, Math.min(first, found[2]), log, fragments);
        Due.same("its length", packedLength(x, fragments), packed.length);
        long word = 0;
        for (int i = 0; i < packed.length; i++) {
            word = i % 8 == 0 ? x.word(i / 8) : word >>> 8;
            if ((word & 255) != (packed[i] & 255)) {
                x.patch(i, packed[i]);
            }
        }
        return x;
    }

    /** File 0 is one block of so many bytes, which has this packed row; null, and told, if none as long can be made. */
    static SharedBlocks block(byte[] packed, int size, int log) {
        return holding(packed, size, size, log, false);
    }

    /**
     * A fragment has this packed row; the first bytes of it are file 0's, those up to a most, or to fewer if one that
     * is as long has to have fewer, are file 1's.
     */
    static SharedBlocks rests(byte[] packed, int first, int most, int log) {
        return holding(packed, most, first, log, true);
    }

    /** A packed row without a fault that makes these bytes, up to 4000. */
    static void makes(String name, byte[] packed, byte[] made) {
        SharedBlocks x = rests(packed, made.length, 4000, 12);
        if (x == null) {
            return;
        }
        int n = x.about(0, 1);
        Due.same(name + ": as many bytes as are made", n, made.length);
        Due.same(name + ": read", x.read(0, 0, n), n);
        Due.same(name + ": taken", x.taken(), 1);
        outIs(name, x, made, 0, n);
        try {
            Due.holds(name + ": by the model", Arrays.equals(made, Model.unpack(packed, 4096)));
        } catch (Model.Fault fault) {
            Due.holds(name + ": by the model, " + fault.getMessage(), false);
        }
    }

    static void makes(String name, byte[] packed, String made) {
        makes(name, packed, Recipe.bytesOf(made));
    }

    /** Some words of the out, the last one among them, are as the n bytes from a place on. */
    static void outIs(String name, SharedBlocks x, byte[] made, int from, int n) {
        int step = 1 + n / 400;
        for (int i = 0; i < n / 8; i += step) {
            Due.same(name + ": out " + i, x.out(i), Recipe.eight(made, from + 8 * i, 8));
        }
        Due.same(name + ": the last out", x.out(n / 8), Recipe.eight(made, from + n / 8 * 8, n % 8));
    }

    /** A packed row with a fault. */
    static void faulty(String name, byte[] packed) {
        SharedBlocks x = rests(packed, 1, 4000, 12);
        if (x == null) {
            return;
        }
        Due.same(name + ": read", x.read(0, 0, 1), SharedBlocks.SPOILT);
        Due.same(name + ": taken", x.taken(), 0);
        try {
            Model.unpack(packed, 4096);
            Due.holds(name + ": a fault by the model", false);
        } catch (Model.Fault fault) {
            Due.holds(name, true);
        }
    }
}
