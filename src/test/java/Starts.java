/** Objects from which a test begins. */
final class Starts {
    private Starts() {
    }

    /** Something in all of it, some files being other now than when they were put; the last read took two blocks. */
    static SharedBlocks rich() {
        SharedBlocks x = new SharedBlocks();
        x.fill(0, 0, 9, 4106);
        x.fill(1, 0, 0, 8197);
        x.fill(2, 0, 9, 4106);
        x.fill(3, 1, 3, 20);
        x.fill(63, 0, 5, 1);
        x.put(12, true, true);
        x.read(0, 4090, 12);
        x.fill(3, 0, 1, 2);
        x.clear(63);
        x.fill(5, 0, 8, 30);
        x.feed(0x0504030201L, 5);
        return x;
    }

    /** As rich(), but the row's last byte is missing and another one is patched. */
    static SharedBlocks spoilt() {
        SharedBlocks x = rich();
        x.cut(x.size() - 1);
        x.patch(x.size() - 3, 77);
        return x;
    }

    /** Files that have so many bytes together, some of them put. */
    static SharedBlocks withFiles(int n) {
        SharedBlocks x = new SharedBlocks();
        x.fill(7, 1, 5, 50);
        x.put(12, true, true);
        x.read(7, 0, 20);
        x.fill(8, 0, 2, n - 60);
        x.fill(9, 1, 6, 10);
        x.feed(0x060504030201L, 6);
        return x;
    }

    /** A tape of so many bytes. */
    static SharedBlocks withTape(int n) {
        SharedBlocks x = new SharedBlocks();
        x.fill(0, 0, 3, 40);
        x.put(12, true, false);
        x.read(0, 3, 9);
        feed(x, n);
        return x;
    }

    /** Feeds so many bytes, up from 1. */
    static void feed(SharedBlocks x, int n) {
        for (int i = 0; i < n; i += 8) {
            long eight = 0;
            for (int k = 7; k >= 0; k--) {
                eight = eight << 8 | i + k + 1 & 255;
            }
            x.feed(eight, Math.min(8, n - i));
        }
    }
}
