import java.io.ByteArrayOutputStream;
import java.util.ArrayList;
import java.util.List;

/** A file's bytes and the calls that make them, so that as many objects as are needed can have them. */
final class Recipe {
    /** An object is used for 512 calls. */
    private static final int MOST_CALLS = 512;
    private static final int MOST_TAPE = 1024;

    private interface Step {
        /** How many calls it takes. */
        int make(SharedBlocks x, int file);
    }

    private final List<Step> steps = new ArrayList<>();
    private final ByteArrayOutputStream all = new ByteArrayOutputStream();

    byte[] all() {
        return all.toByteArray();
    }

    int count() {
        return all.size();
    }

    Recipe run(int b, int n) {
        if (n > 0) {
            steps.add((x, file) -> fill(x, file, 0, b, n));
        }
        for (int i = 0; i < n; i++) {
            all.write(b);
        }
        return this;
    }

    /** Drawn bytes, as the document has them. */
    Recipe drawn(int b, int n) {
        if (n > 0) {
            steps.add((x, file) -> fill(x, file, 1, b, n));
        }
        int state = b;
        for (int i = 0; i < n; i++) {
            state = 1103515245 * state + 12345;
            all.write(state >> 16);
        }
        return this;
    }

    private static int fill(SharedBlocks x, int file, int kind, int b, int n) {
        x.fill(file, kind, b, n);
        return 1;
    }

    Recipe text(String text) {
        return bytes(bytesOf(text));
    }

    Recipe bytes(byte[] bytes) {
        if (bytes.length > 0) {
            steps.add((x, file) -> write(x, file, bytes));
        }
        all.writeBytes(bytes);
        return this;
    }

    private static int write(SharedBlocks x, int file, byte[] bytes) {
        int calls = 0;
        for (int i = 0; i < bytes.length; i += 8) {
            int n = Math.min(8, bytes.length - i);
            x.feed(eight(bytes, i, n), n);
            calls++;
            if ((i + n) % MOST_TAPE == 0 || i + n == bytes.length) {
                x.write(file, 1);
                calls++;
            }
        }
        return calls;
    }

    /** Up to eight bytes from a place on as a number, the first one lowest. */
    static long eight(byte[] bytes, int from, int most) {
        long eight = 0;
        for (int k = Math.min(most, bytes.length - from) - 1; k >= 0; k--) {
            eight = eight << 8 | bytes[from + k] & 255;
        }
        return eight;
    }

    static byte[] bytesOf(String text) {
        byte[] bytes = new byte[text.length()];
        for (int i = 0; i < bytes.length; i++) {
            bytes[i] = (byte) text.charAt(i);
        }
        return bytes;
    }

    /** Gives a file these bytes: how many calls that took. */
    int make(SharedBlocks x, int file) {
        int calls = 0;
        for (Step step : steps) {
            calls += step.make(x, file);
        }
        return calls;
    }

    /** The row when file 0 has these bytes and is put; seen on as many objects as that takes. */
    byte[] row(int log, boolean packing, boolean fragments) {
        byte[] row = {};
        int words = 1;
        int seen = 0;
        while (seen < words) {
            SharedBlocks x = new SharedBlocks();
            int calls = make(x, 0) + 1;
            int size = x.put(log, packing, fragments);
            row = seen == 0 ? new byte[size] : row;
            words = (size + 7) / 8;
            if (calls >= MOST_CALLS) {
                Due.holds("words can be seen within " + MOST_CALLS + " calls", false);
                return row;
            }
            for (; seen < words && calls < MOST_CALLS; calls++) {
                long word = x.word(seen);
                for (int k = 0; k < 8 && 8 * seen + k < size; k++) {
                    row[8 * seen + k] = (byte) (word >>> 8 * k);
                }
                seen++;
            }
        }
        return row;
    }
}
