import java.util.Arrays;
import java.util.Random;

/** Rows without a fault, of another number of bytes, patched over packed fragments: which files are still read. */
final class ShortFragmentsTest {
    private static final int RUNS = 240;
    private static final int RAW = 16777216;
    private static final int BYTE = 88;

    private final SharedBlocks own = new SharedBlocks();
    private final Model model = new Model();
    private final Random random;
    private final int log;
    private final String name;
    private static int patched = 0;
    private static int spoilt = 0;

    private ShortFragmentsTest(int seed) {
        random = new Random(seed);
        log = 12 + seed % 5;
        name = "seed " + seed + ": ";
    }

    public static void main(String[] args) {
        for (int seed = 0; seed < RUNS; seed++) {
            new ShortFragmentsTest(seed).run();
        }
        System.out.println(patched + " fragments patched, " + spoilt + " rests spoilt by that");
        Due.holds("many fragments are patched", patched > RUNS / 2 && spoilt > RUNS / 2);
        Due.end();
    }

    private void due(String call, long got, long want) {
        Due.same(name + call, got, want);
    }

    private void fill(int file, int kind, int b, int n) {
        due("fill", own.fill(file, kind, b, n), model.fill(file, kind, b, n));
    }

    /** Drawn bytes, which make the packed row long enough for others, then runs of one byte. */
    private void run() {
        int block = 1 << log;
        int part = Math.min(block, 9000);
        int files = 2 + random.nextInt(4);
        fill(0, 1, random.nextInt(), 100 + random.nextInt(60));
        for (int file = 1; file < files; file++) {
            int whole = log < 14 && random.nextInt(3) == 0 ? block : 0;
            fill(file, 0, random.nextInt(3), whole + 1 + random.nextInt(part / 2));
        }
        due("put", own.put(log, true, true), model.put(log, true, true));
        int fragment = own.about(random.nextInt(files), 4);
        int begin = own.fragment(fragment, 0);
        int number = own.fragment(fragment, 1);
        int near = random.nextInt(files);
        while (own.about(near, 4) != fragment) {
            near = (near + 1) % files;
        }
        int made = random.nextInt(6) == 0 ? block + random.nextInt(2) : end(near) + random.nextInt(3) - 1;
        byte[] packed = number < RAW ? runOf(made, number) : null;
        if (packed == null) {
            return;
        }
        patched++;
        for (int i = 0; i < packed.length; i++) {
            due("patch", own.patch(begin + i, packed[i]), model.patch(begin + i, packed[i]));
        }
        for (int file = 0; file < files; file++) {
            readAll(file, own.about(file, 4) == fragment && (end(file) > made || made > block));
        }
    }

    /** Where a file's rest ends in its fragment. */
    private int end(int file) {
        return own.about(file, 5) + own.about(file, 1) - (own.about(file, 3) << log);
    }

    private void readAll(int file, boolean bad) {
        int size = own.about(file, 1);
        int rest = own.about(file, 3) << log;
        spoilt += bad ? 1 : 0;
        int[][] stretches = {{rest, 1}, {size - 1, 1}, {rest, 4096}, {Math.max(rest - 5, 0), 4096},
            {(rest + size) / 2, 3}};
        for (int[] stretch : stretches) {
            int due = Math.min(stretch[1], size - stretch[0]);
            String call = "read " + file + " " + stretch[0] + " " + stretch[1];
            due(call + " as told", model.read(file, stretch[0], stretch[1]), bad ? Model.SPOILT : due);
            due(call, own.read(file, stretch[0], stretch[1]), bad ? SharedBlocks.SPOILT : due);
            due("taken", own.taken(), model.taken());
            due("out", own.out(0), model.out(0));
        }
        due("what is before the rest", own.read(file, 0, Math.min(rest, 4096)), Math.min(rest, 4096));
        model.read(file, 0, Math.min(rest, 4096));
    }

    /** A packed row of so many bytes that makes so many bytes, all the same; null if there is none. */
    private static byte[] runOf(int made, int length) {
        byte[] all = new byte[made];
        Arrays.fill(all, (byte) BYTE);
        for (int stored = 0; 5 * stored < length; stored++) {
            for (int fixed = 0; fixed < 5; fixed++) {
                byte[] packed = runOf(all, stored, fixed);
                if (packed.length == length) {
                    return packed;
                }
            }
        }
        return null;
    }

    /** A run behind parts without bytes, which make the row longer. */
    private static byte[] runOf(byte[] all, int stored, int fixed) {
        Bits bits = Bits.packed();
        for (int i = 0; i < stored; i++) {
            bits.stored(false, new byte[0]);
        }
        for (int i = 0; i < fixed; i++) {
            bits.part(false, 1).fixed(256);
        }
        bits.part(true, 1);
        int left = all.length;
        if (left > 0) {
            bits.fixed(BYTE);
            left--;
        }
        for (int s = 285; s > 256; s--) {
            int[] base = Model.lengthBaseAndBits(s);
            for (; left >= base[0]; left -= base[0]) {
                bits.fixed(s).number(0, base[1]).fixedDistance(0);
            }
        }
        for (; left > 0; left--) {
            bits.fixed(BYTE);
        }
        return bits.fixed(256).check(all);
    }
}
