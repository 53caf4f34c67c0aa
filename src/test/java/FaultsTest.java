import java.util.Arrays;
import java.util.Random;
import java.util.zip.Deflater;

/** Packed rows in which each bit is turned, and such that another packer made. */
final class FaultsTest {
    private FaultsTest() {
    }

    public static void main(String[] args) {
        everyBit();
        foreignRows();
        Due.end();
    }

    /** Each bit of a packed row is turned: as the model reads it. */
    private static void everyBit() {
        Recipe recipe = new Recipe()
                .text("she sells sea shells by the sea shore; the shells she sells are sea shells. ");
        int count = recipe.count();
        byte[] packed = recipe.row(12, true, true);
        for (int turn = 0; turn < 8; turn++) {
            SharedBlocks x = new SharedBlocks();
            recipe.make(x, 0);
            Due.same("the row", x.put(12, true, true), packed.length);
            for (int i = 0; i < packed.length; i++) {
                byte[] other = packed.clone();
                other[i] ^= (byte) (1 << turn);
                x.patch(i, other[i]);
                Due.same("bit " + turn + " of byte " + i + " turned", x.read(0, 0, count), readOf(other, count));
                x.patch(i, packed[i]);
            }
            Due.same("turned back", x.read(0, 0, count), count);
        }
    }

    private static int readOf(byte[] packed, int count) {
        try {
            return Model.unpack(packed, 4096).length < count ? SharedBlocks.SPOILT : count;
        } catch (Model.Fault fault) {
            return SharedBlocks.SPOILT;
        }
    }

    private static void foreignRows() {
        Random random = new Random(3);
        int read = 0;
        for (int run = 0; run < 60; run++) {
            byte[] data = new byte[run % 3 == 0 ? 300 : 600];
            for (int i = 0; i < data.length; i++) {
                int back = 1 + random.nextInt(90);
                data[i] = i > 90 && random.nextInt(7) > 0 ? data[i - back / 10 - 1] : (byte) (random.nextInt(64) & back);
            }
            byte[] packed = deflate(data, run);
            if (packed.length < 400) {
                Patched.makes("foreign " + run, packed, data);
                read++;
            }
        }
        Due.holds("many rows were read", read > 30);
    }

    private static byte[] deflate(byte[] data, int run) {
        Deflater deflater = new Deflater(1 + run % 9);
        deflater.setStrategy(run % 3 == 0 ? Deflater.HUFFMAN_ONLY : Deflater.DEFAULT_STRATEGY);
        deflater.setInput(data);
        deflater.finish();
        byte[] packed = new byte[8192];
        int n = 0;
        for (int i = 0; i < 9 && !deflater.finished(); i++) {
            n += deflater.deflate(packed, n, packed.length - n);
        }
        deflater.end();
        return Arrays.copyOf(packed, n);
    }
}
