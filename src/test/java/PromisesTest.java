/** Each promise by itself: ordinary calls, the edges that the document names, and wrong calls. */
final class PromisesTest {
    private static final int RAW = 16777216;
    private static final int LOW = Integer.MIN_VALUE, HIGH = Integer.MAX_VALUE;

    private PromisesTest() {
    }

    public static void main(String[] args) {
        newObject();
        feed();
        write();
        fill();
        clear();
        putPlain();
        putZeros();
        putFragments();
        putShared();
        putMany();
        putAgain();
        putPacked();
        about();
        number();
        fragment();
        word();
        patch();
        cut();
        read();
        readRefused();
        out();
        taken();
        Due.end();
    }

    private static SharedBlocks fresh() {
        return new SharedBlocks();
    }

    /** File 0 has 4096 + 10 drawn bytes, file 1 has 5 bytes of 7; put without packing. */
    private static SharedBlocks small(boolean fragments) {
        SharedBlocks x = fresh();
        x.fill(0, 1, 1, 4106);
        x.fill(1, 0, 7, 5);
        x.put(12, false, fragments);
        return x;
    }

    /** Promise 1. */
    private static void newObject() {
        SharedBlocks x = fresh();
        for (int file = 0; file < 64; file++) {
            x = file % 32 == 0 ? fresh() : x;
            for (int what = 0; what < 7; what++) {
                Due.same("about of a new object", x.about(file, what), what == 4 ? SharedBlocks.NONE : 0);
            }
            Due.same("number of a new object", x.number(file, 0), SharedBlocks.NONE);
            Due.same("read of a new object", x.read(file, 0, 4096), 0);
        }
        Due.same("fragments of a new object", x.fragments(), 0);
        Due.same("fragment of a new object", x.fragment(0, 0), SharedBlocks.NONE);
        Due.same("size of a new object", x.size(), 0);
        Due.same("word of a new object", x.word(0), 0);
        Due.same("patch of a new object", x.patch(0, 1), SharedBlocks.NONE);
        Due.same("cut of a new object", x.cut(0), 0);
        Due.same("cut of a new object", x.cut(1), SharedBlocks.BAD);
        Due.same("out of a new object", x.out(0), 0);
        Due.same("taken of a new object", x.taken(), 0);
        Due.same("the tape of a new object", x.write(0, 64), 0);
        SharedBlocks other = fresh();
        x.fill(0, 0, 1, 10);
        x.put(12, false, false);
        Due.same("another object", other.about(0, 0), 0);
        Due.same("another object", other.size(), 0);
    }

    /** Promise 2. */
    private static void feed() {
        SharedBlocks x = fresh();
        Due.same("feed 8", x.feed(0x8877665544332211L, 8), 8);
        Due.same("feed 1", x.feed(0xfffffffffffffe99L, 1), 9);
        Due.same("feed 0", x.feed(1, 0), SharedBlocks.BAD);
        Due.same("feed 9", x.feed(1, 9), SharedBlocks.BAD);
        Due.same("feed -1", x.feed(1, -1), SharedBlocks.BAD);
        Due.same("feed lowest", x.feed(1, LOW), SharedBlocks.BAD);
        Due.same("feed highest", x.feed(1, HIGH), SharedBlocks.BAD);
        Due.same("feed 3", x.feed(0xccbbaa, 3), 12);
        Due.same("write what was fed", x.write(0, 1), 12);
        x.put(12, false, true);
        Due.same("the first bytes", x.word(0), 0x8877665544332211L);
        Due.same("the next bytes", x.word(1), 0xccbbaa99L);
        for (int i = 0; i < 127; i++) {
            x.feed(i, 8);
        }
        Due.same("feed up to 1023", x.feed(5, 7), 1023);
        Due.same("feed two more", x.feed(5, 2), SharedBlocks.FULL);
        Due.same("feed nine to a full tape", x.feed(5, 9), SharedBlocks.BAD);
        Due.same("feed up to 1024", x.feed(5, 1), 1024);
        Due.same("feed a full tape", x.feed(5, 1), SharedBlocks.FULL);
        Due.same("write the full tape", x.write(1, 1), 1024);
        Due.same("feed behind write", x.feed(5, 1), 1);
    }

    /** Promise 3. */
    private static void write() {
        SharedBlocks x = fresh();
        x.feed(0x030201, 3);
        Due.same("write", x.write(63, 2), 6);
        Due.same("write an empty tape", x.write(63, 64), 6);
        x.feed(4, 1);
        Due.same("write behind", x.write(63, 1), 7);
        x.put(12, false, true);
        Due.same("written bytes", x.word(0), 0x04030201030201L);
        int[][] wrong = {{-1, 1}, {64, 1}, {LOW, 1}, {HIGH, 1}, {0, 0}, {0, 65}, {0, -1}, {0, LOW}, {0, HIGH}};
        for (int[] call : wrong) {
            x.feed(9, 1);
            Due.same("write " + call[0] + " " + call[1], x.write(call[0], call[1]), SharedBlocks.BAD);
            Due.same("a refused write uses the tape up", x.feed(9, 1), 1);
            x.write(62, 1);
            x.clear(62);
        }
        Due.same("refused writes write nothing", x.about(0, 0), 0);
        x = fresh();
        for (int i = 0; i < 128; i++) {
            x.feed(i, 8);
        }
        Due.same("write all that can be", x.write(0, 64), 65536);
        x.feed(9, 1);
        Due.same("write to full files", x.write(1, 1), SharedBlocks.FULL);
        Due.same("a full write uses the tape up", x.feed(9, 1), 1);
        Due.same("full and bad", x.write(1, 65), SharedBlocks.BAD);
        Due.same("nothing to full files", x.write(1, 64), 0);
        x.clear(0);
        x.fill(0, 0, 1, 65530);
        x.feed(9, 7);
        Due.same("seven where six are left", x.write(1, 1), SharedBlocks.FULL);
        x.feed(9, 3);
        Due.same("two times three where six are left", x.write(1, 2), 6);
        Due.same("the others keep their bytes", x.about(0, 0), 65530);
    }

    /** Promise 4. */
    private static void fill() {
        SharedBlocks x = fresh();
        Due.same("fill kind 0", x.fill(0, 0, 0x1fe, 4), 4);
        Due.same("fill kind 1", x.fill(0, 1, 5, 4), 8);
        x.put(12, false, true);
        int a = 1103515245 * 5 + 12345;
        int b = 1103515245 * a + 12345;
        int c = 1103515245 * b + 12345;
        int d = 1103515245 * c + 12345;
        long drawn = (a >> 16 & 255) | (b >> 16 & 255) << 8 | (c >> 16 & 255) << 16 | (long) (d >> 16 & 255) << 24;
        Due.same("filled bytes", x.word(0), 0xfefefefeL | drawn << 32);
        int[][] wrong = {{-1, 0, 1}, {64, 0, 1}, {LOW, 0, 1}, {HIGH, 1, 1}, {0, -1, 1}, {0, 2, 1}, {0, LOW, 1},
            {0, 0, 0}, {0, 0, -1}, {0, 1, 65537}, {0, 0, LOW}, {0, 0, HIGH}};
        for (int[] call : wrong) {
            Due.same("fill " + call[0] + " " + call[1] + " " + call[2], x.fill(call[0], call[1], 3, call[2]),
                    SharedBlocks.BAD);
        }
        Due.same("refused fills fill nothing", x.about(0, 0), 8);
        Due.same("fill too much", x.fill(1, 0, 1, 65529), SharedBlocks.FULL);
        Due.same("full and bad", x.fill(1, 2, 1, 65536), SharedBlocks.BAD);
        Due.same("fill what is left", x.fill(1, 1, LOW, 65528), 65528);
        Due.same("fill one more", x.fill(2, 0, 1, 1), SharedBlocks.FULL);
        x.feed(1, 1);
        x.fill(2, 0, 1, 1);
        Due.same("fill leaves the tape", x.feed(1, 1), 2);
        Due.same("fill all", fresh().fill(63, 0, 0, 65536), 65536);
    }

    /** Promise 5. */
    private static void clear() {
        SharedBlocks x = fresh();
        x.fill(0, 0, 1, 3);
        x.fill(1, 0, 2, 4);
        x.fill(2, 0, 3, 5);
        Due.same("clear", x.clear(1), 4);
        Due.same("clear again", x.clear(1), 0);
        Due.same("clear -1", x.clear(-1), SharedBlocks.BAD);
        Due.same("clear 64", x.clear(64), SharedBlocks.BAD);
        Due.same("clear lowest", x.clear(LOW), SharedBlocks.BAD);
        Due.same("clear highest", x.clear(HIGH), SharedBlocks.BAD);
        Due.same("a cleared file", x.about(1, 0), 0);
        Due.same("the file before", x.about(0, 0), 3);
        Due.same("the file behind", x.about(2, 0), 5);
        x.put(12, false, true);
        Due.same("what is left", x.word(0), 0x0303030303010101L);
        Due.same("bytes that went can come again", x.fill(1, 0, 2, 65528), 65528);
        x.clear(2);
        Due.same("what was put stays", x.read(2, 0, 9), 5);
        Due.same("its bytes", x.out(0), 0x0303030303L);
    }

    /** Promise 6: blocks as they are. */
    private static void putPlain() {
        SharedBlocks x = fresh();
        Due.same("put nothing", x.put(16, true, true), 0);
        x.fill(5, 1, 3, 8192);
        x.fill(3, 1, 4, 4097);
        for (int log : new int[] {11, 17, 0, -1, 32, 44, LOW, HIGH}) {
            Due.same("put " + log, x.put(log, false, false), SharedBlocks.BAD);
        }
        Due.same("refused puts put nothing", x.about(5, 1), 0);
        Due.same("put", x.put(12, false, false), 12289);
        Due.same("the first file's begin", x.about(3, 2), 0);
        Due.same("its blocks", x.about(3, 3), 2);
        Due.same("its first block", x.number(3, 0), RAW + 4096);
        Due.same("its last block", x.number(3, 1), RAW + 1);
        Due.same("the second file's begin", x.about(5, 2), 4097);
        Due.same("its blocks", x.about(5, 3), 2);
        Due.same("no fragment", x.about(5, 4), SharedBlocks.NONE);
        Due.same("its last block", x.number(5, 1), RAW + 4096);
        for (int log = 13; log <= 16; log++) {
            Due.same("put " + log, x.put(log, false, false), 12289);
            Due.same("one block", x.about(5, 3), 1);
            Due.same("as a whole", x.number(5, 0), RAW + 8192);
        }
        x = fresh();
        x.fill(0, 1, 1, 65536);
        Due.same("put all that can be", x.put(16, true, true), 65536);
        Due.same("one block", x.number(0, 0), RAW + 65536);
        Due.same("no rest", x.fragments(), 0);
    }

    /** Promise 6: blocks of zeros. */
    private static void putZeros() {
        SharedBlocks x = fresh();
        x.fill(0, 0, 0, 4096);
        x.fill(0, 1, 1, 4096);
        x.fill(0, 0, 0, 4100);
        x.fill(1, 0, 0, 4095);
        x.fill(1, 0, 1, 1);
        x.fill(1, 0, 0, 1);
        Due.same("put with zeros", x.put(12, false, false), 8192);
        Due.same("begin", x.about(0, 2), 0);
        Due.same("blocks", x.about(0, 3), 4);
        Due.same("bytes in zeros", x.about(0, 6), 8196);
        Due.same("zeros", x.number(0, 0), 0);
        Due.same("no zeros", x.number(0, 1), RAW + 4096);
        Due.same("zeros", x.number(0, 2), 0);
        Due.same("a shorter one", x.number(0, 3), 0);
        Due.same("not zeros alone", x.number(1, 0), RAW + 4096);
        Due.same("one zero", x.number(1, 1), 0);
        Due.same("one byte in zeros", x.about(1, 6), 1);
        Due.same("put with fragments", x.put(12, false, true), 8197);
        Due.same("blocks", x.about(0, 3), 3);
        Due.same("bytes in zeros", x.about(0, 6), 8192);
        Due.same("the rest is in a fragment", x.about(0, 4), 0);
        Due.same("a fragment of zeros is put", x.fragment(0, 1), RAW + 5);
        Due.same("behind the blocks", x.fragment(0, 0), 8192);
        Due.same("read zeros and others", x.read(0, 4090, 8), 8);
        Due.same("the zeros", x.out(0) & 0xffffffffffffL, 0);
        Due.same("one block was taken", x.taken(), 1);
        x.clear(0);
        x.fill(0, 0, 5, 100);
        x.clear(1);
        x.fill(1, 0, 0, 8192);
        Due.same("zeros behind the row", x.put(12, false, false), 100);
        Due.same("begin of a first block of zeros", x.about(1, 2), 100);
    }

    /** Promise 6: fragments. */
    private static void putFragments() {
        SharedBlocks x = fresh();
        x.fill(0, 0, 1, 4000);
        x.fill(1, 0, 2, 96);
        x.fill(2, 0, 3, 1);
        x.fill(3, 1, 4, 4096 + 4095);
        x.fill(4, 0, 5, 2);
        Due.same("put fragments", x.put(12, false, true), 4000 + 96 + 1 + 4096 + 4095 + 2);
        Due.same("fragments", x.fragments(), 3);
        int[][] due = {{4000, 0, 0, 0, 0}, {96, 0, 0, 0, 4000}, {1, 0, 0, 1, 0}, {8191, 4096, 1, 1, 1}, {2, 0, 0, 2, 0}};
        for (int file = 0; file < due.length; file++) {
            for (int what = 1; what <= 5; what++) {
                Due.same("about " + file + " " + what, x.about(file, what), due[file][what - 1]);
            }
        }
        Due.same("the first one's begin", x.fragment(0, 0), 0);
        Due.same("the first one's number", x.fragment(0, 1), RAW + 4096);
        Due.same("the second one comes behind file 3's block", x.fragment(1, 0), 8192);
        Due.same("the second one's number", x.fragment(1, 1), RAW + 4096);
        Due.same("the third one's begin", x.fragment(2, 0), 12288);
        Due.same("the third one's number", x.fragment(2, 1), RAW + 2);
        Due.same("read over the border to the rest", x.read(3, 4095, 2), 2);
        Due.same("two blocks are taken", x.taken(), 2);
        Due.same("read a rest", x.read(1, 95, 9), 1);
        Due.same("its last byte", x.out(0), 2);
        Due.same("without fragments", x.put(12, false, false), 4000 + 96 + 1 + 4096 + 4095 + 2);
        Due.same("there are none", x.fragments(), 0);
        Due.same("the rest is a block", x.number(1, 0), RAW + 96);
    }

    /** Promise 6: files with the same bytes. */
    private static void putShared() {
        SharedBlocks x = fresh();
        x.fill(9, 1, 1, 5000);
        x.fill(11, 1, 1, 5000);
        x.fill(10, 1, 1, 5001);
        x.fill(20, 1, 1, 2500);
        x.fill(20, 1, 1, 2500);
        x.fill(63, 1, 1, 5000);
        Due.same("put shared", x.put(12, false, true), 4096 + 904 + 4096 + 905 + 4096 + 904);
        for (int what = 1; what <= 6; what++) {
            Due.same("11 is as 9: " + what, x.about(11, what), x.about(9, what));
            Due.same("63 is as 9: " + what, x.about(63, what), x.about(9, what));
        }
        Due.same("the block number", x.number(63, 0), RAW + 4096);
        Due.same("10 is another", x.about(10, 2), 4096);
        Due.same("20 is another", x.about(20, 2), 8192);
        Due.same("files without bytes share nothing", x.about(62, 4), SharedBlocks.NONE);
        x.read(9, 4090, 8);
        long nine = x.out(0);
        Due.same("read the other", x.read(63, 4090, 8), 8);
        Due.same("the same bytes", x.out(0), nine);
        x.fill(0, 1, 1, 5000);
        Due.same("put shared with file 0", x.put(12, false, true), 4096 + 904 + 4096 + 905 + 4096 + 904);
        Due.same("9 is as 0", x.about(9, 2), 0);
        x.clear(0);
        x.clear(9);
        x.fill(12, 0, 0, 6000);
        x.fill(13, 0, 0, 6000);
        x.put(12, false, true);
        Due.same("11 is the first now", x.about(11, 2), 4096);
        Due.same("shared zeros", x.about(13, 6), 4096);
        Due.same("shared blocks", x.about(13, 3), 1);
        Due.same("shared offset", x.about(13, 5), x.about(12, 5));
        Due.same("9 has nothing now", x.about(9, 1), 0);
        Due.same("9 has no fragment now", x.about(9, 4), SharedBlocks.NONE);
    }

    /** Promise 6: as many blocks, and as many fragments, as there can be. */
    private static void putMany() {
        SharedBlocks x = fresh();
        for (int file = 0; file < 63; file++) {
            x.fill(file, 0, file + 1, 1);
        }
        x.fill(63, 1, 1, 65536 - 63);
        Due.same("put many blocks", x.put(12, false, false), 65536);
        Due.same("the last file's begin", x.about(63, 2), 63);
        Due.same("its blocks", x.about(63, 3), 16);
        Due.same("its last block", x.number(63, 15), RAW + 4096 - 63);
        Due.same("read its end", x.read(63, 65536 - 64, 9), 1);
        x.clear(63);
        for (int file = 0; file < 63; file++) {
            x.clear(file);
        }
        for (int file = 0; file < 31; file++) {
            x.fill(file, 1, file, 2049);
        }
        Due.same("put many fragments", x.put(12, false, true), 31 * 2049);
        Due.same("each rest in its own one", x.fragments(), 31);
        Due.same("the last one", x.fragment(30, 0), 30 * 2049);
        Due.same("the last file's fragment", x.about(30, 4), 30);
    }

    /** Promise 6: the row is made anew each time, and what was put stays until then. */
    private static void putAgain() {
        SharedBlocks x = small(true);
        x.fill(0, 0, 9, 100);
        x.fill(2, 0, 9, 100);
        Due.same("the file has more now", x.about(0, 0), 4206);
        Due.same("the size when put", x.about(0, 1), 4106);
        Due.same("not put yet", x.about(2, 1), 0);
        Due.same("read to its end when put", x.read(0, 4100, 100), 6);
        x.cut(3);
        x.patch(0, 255);
        Due.same("put again", x.put(12, false, true), 4096 + 110 + 5 + 100);
        Due.same("refused", x.put(5, true, true), SharedBlocks.BAD);
        Due.same("what was put stays", x.size(), 4311);
        Due.same("put to be read", x.read(0, 4100, 200), 106);
        Due.same("put now", x.about(2, 1), 100);
    }

    /** Promise 6: packed rows that were worked out by hand. */
    private static void putPacked() {
        SharedBlocks x = fresh();
        x.fill(0, 0, 97, 12);
        // 120 156; 1 and 01; 97; a match of 11 (symbol 265, one bit 0) one before; the end; the check.
        Bits bits = Bits.packed().part(true, 1).fixed(97).fixed(265).bit(0).fixedDistance(0).fixed(256);
        rowIs(x, bits.check("aaaaaaaaaaaa".getBytes()), true);
        for (int n = 9; n <= 11; n++) {
            x.clear(0);
            x.fill(0, 0, 97, n);
            Due.same("shorter from 11 on: " + n, x.put(12, true, true), Math.min(n, 10));
            Due.same("its number", x.fragment(0, 1), n == 11 ? 10 : RAW + n);
        }
        x.clear(0);
        long text = 0x6867666564636261L;
        for (int i = 0; i < 3; i++) {
            x.feed(text, 8);
        }
        x.write(0, 1);
        bits = Bits.packed().part(true, 1).fixedText("abcdefgh").fixed(267).bit(1).fixedDistance(5).bit(1).fixed(256);
        rowIs(x, bits.check("abcdefghabcdefghabcdefgh".getBytes()), true);
        Due.same("without packing", x.put(12, false, false), 24);
        Due.same("as it is", x.number(0, 0), RAW + 24);
        Due.same("its bytes", x.word(2), text);
    }

    /** All files are put as one row of these bytes; it is read back. */
    private static void rowIs(SharedBlocks x, byte[] due, boolean fragments) {
        Due.same("how long the packed row is", x.put(12, true, fragments), due.length);
        Due.same("its number", x.fragment(0, 1), due.length);
        for (int i = 0; i < due.length; i++) {
            Due.same("byte " + i + " of the packed row", x.word(i / 8) >>> i % 8 * 8 & 255, due[i] & 255);
        }
        Due.same("read back", x.read(0, 0, 4096), x.about(0, 1));
        Due.same("one was unpacked", x.taken(), 1);
    }

    /** Promise 7. */
    private static void about() {
        SharedBlocks x = small(true);
        int[] due = {4106, 4106, 0, 1, 0, 0, 0};
        for (int what = 0; what < 7; what++) {
            Due.same("about " + what, x.about(0, what), due[what]);
        }
        Due.same("the second one's offset", x.about(1, 5), 10);
        int[][] wrong = {{-1, 0}, {64, 0}, {LOW, 0}, {HIGH, 0}, {0, -1}, {0, 7}, {0, LOW}, {0, HIGH}};
        for (int[] call : wrong) {
            Due.same("about " + call[0] + " " + call[1], x.about(call[0], call[1]), SharedBlocks.BAD);
        }
    }

    /** Promise 8. */
    private static void number() {
        SharedBlocks x = small(false);
        Due.same("number 0", x.number(0, 0), RAW + 4096);
        Due.same("number 1", x.number(0, 1), RAW + 10);
        Due.same("number of another", x.number(1, 0), RAW + 5);
        Due.same("number 2", x.number(0, 2), SharedBlocks.NONE);
        Due.same("number -1", x.number(0, -1), SharedBlocks.NONE);
        Due.same("number lowest", x.number(0, LOW), SharedBlocks.NONE);
        Due.same("number highest", x.number(0, HIGH), SharedBlocks.NONE);
        Due.same("number of none", x.number(2, 0), SharedBlocks.NONE);
        Due.same("file -1", x.number(-1, 0), SharedBlocks.BAD);
        Due.same("file 64", x.number(64, -1), SharedBlocks.BAD);
        x = small(true);
        Due.same("a rest has no number", x.number(0, 1), SharedBlocks.NONE);
    }

    /** Promises 9, 10 and 11. */
    private static void fragment() {
        SharedBlocks x = small(true);
        Due.same("fragments", x.fragments(), 1);
        Due.same("size", x.size(), 4111);
        Due.same("begin", x.fragment(0, 0), 4096);
        Due.same("number", x.fragment(0, 1), RAW + 15);
        Due.same("fragment 1", x.fragment(1, 0), SharedBlocks.NONE);
        Due.same("fragment -1", x.fragment(-1, 1), SharedBlocks.NONE);
        Due.same("fragment lowest", x.fragment(LOW, 1), SharedBlocks.NONE);
        Due.same("fragment highest", x.fragment(HIGH, 1), SharedBlocks.NONE);
        Due.same("what -1", x.fragment(0, -1), SharedBlocks.BAD);
        Due.same("what 2", x.fragment(9, 2), SharedBlocks.BAD);
        Due.same("what lowest", x.fragment(-1, LOW), SharedBlocks.BAD);
        x.cut(100);
        Due.same("size behind cut", x.size(), 100);
        Due.same("cut leaves the fragments", x.fragments(), 1);
        x.clear(0);
        x.clear(1);
        x.put(12, false, true);
        Due.same("no fragments", x.fragments(), 0);
        Due.same("no size", x.size(), 0);
    }

    /** Promise 12. */
    private static void word() {
        SharedBlocks x = fresh();
        x.feed(0xfedcba9876543210L, 8);
        x.feed(0xbbaa99, 3);
        x.write(0, 1);
        x.put(12, false, false);
        Due.same("word 0", x.word(0), 0xfedcba9876543210L);
        Due.same("word 1", x.word(1), 0xbbaa99L);
        for (int i : new int[] {2, -1, LOW, HIGH, 1 << 29, (1 << 29) + 1, -(1 << 29), 16384}) {
            Due.same("word " + i, x.word(i), 0);
        }
        x.cut(9);
        Due.same("behind a cut", x.word(1), 0x99);
        x.cut(8);
        Due.same("behind a cut", x.word(1), 0);
    }

    /** Promise 13. */
    private static void patch() {
        SharedBlocks x = small(true);
        Due.same("patch", x.patch(4106, 0x1ff), 7);
        Due.same("patch again", x.patch(4106, -256), 255);
        Due.same("the last byte", x.patch(4110, 8), 7);
        Due.same("read it", x.read(1, 0, 5), 5);
        Due.same("as it is now", x.out(0), 0x0807070700L);
        for (int i : new int[] {-1, 4111, LOW, HIGH}) {
            Due.same("patch " + i, x.patch(i, 1), SharedBlocks.NONE);
        }
        Due.same("size", x.size(), 4111);
        x.cut(10);
        Due.same("patch behind a cut", x.patch(10, 1), SharedBlocks.NONE);
        x.patch(9, 77);
        Due.same("files are not patched", x.put(12, false, true), 4111);
        Due.same("the file's byte", x.patch(4106, 0), 7);
    }

    /** Promise 14. */
    private static void cut() {
        SharedBlocks x = small(true);
        Due.same("cut -1", x.cut(-1), SharedBlocks.BAD);
        Due.same("cut more than there is", x.cut(4112), SharedBlocks.BAD);
        Due.same("cut lowest", x.cut(LOW), SharedBlocks.BAD);
        Due.same("cut highest", x.cut(HIGH), SharedBlocks.BAD);
        Due.same("cut nothing", x.cut(4111), 0);
        Due.same("cut one", x.cut(4110), 1);
        Due.same("a block that is there", x.read(0, 0, 4096), 4096);
        Due.same("the fragment is not there as a whole", x.read(1, 0, 1), SharedBlocks.SPOILT);
        Due.same("cut to the block", x.cut(4096), 14);
        Due.same("a block that is there", x.read(0, 4095, 1), 1);
        Due.same("cut in the block", x.cut(4095), 1);
        Due.same("not as a whole", x.read(0, 0, 1), SharedBlocks.SPOILT);
        Due.same("cut all", x.cut(0), 4095);
        Due.same("cut none", x.cut(0), 0);
        Due.same("size", x.size(), 0);
        Due.same("read nothing", x.read(0, 0, 0), 0);
        Due.same("what was put stays", x.about(0, 1), 4106);
        Due.same("its numbers too", x.number(0, 0), RAW + 4096);
    }

    /** Promise 15. */
    private static void read() {
        SharedBlocks x = fresh();
        x.fill(0, 0, 1, 4096);
        x.fill(0, 0, 2, 4096);
        x.fill(0, 0, 3, 5);
        x.fill(1, 0, 0, 9000);
        for (int kind = 0; kind < 4; kind++) {
            x.put(12, (kind & 1) == 1, (kind & 2) == 2);
            Due.same("read the first byte", x.read(0, 0, 1), 1);
            Due.same("it", x.out(0), 1);
            Due.same("read over a border", x.read(0, 4092, 8), 8);
            Due.same("it", x.out(0), 0x0202020201010101L);
            Due.same("read over the other border", x.read(0, 8189, 8), 8);
            Due.same("it", x.out(0), 0x0303030303020202L);
            Due.same("read 4096", x.read(0, 1, 4096), 4096);
            Due.same("its first", x.out(0), 0x0101010101010101L);
            Due.same("its last", x.out(511), 0x0201010101010101L);
            Due.same("read up to the end", x.read(0, 8195, 4096), 2);
            Due.same("it", x.out(0), 0x0303);
            Due.same("read at the end", x.read(0, 8197, 10), 0);
            Due.same("the out has no bytes", x.out(0), 0);
            Due.same("read behind the end", x.read(0, HIGH, 4096), 0);
            Due.same("read behind the end in the same block", x.read(0, 8200, 4096), 0);
            Due.same("read zeros", x.read(1, 4000, 4096), 4096);
            Due.same("read a file without bytes", x.read(2, 0, 4096), 0);
        }
    }

    private static void readRefused() {
        SharedBlocks x = fresh();
        x.fill(0, 0, 1, 8192);
        x.put(12, true, true);
        Due.same("read", x.read(0, 4090, 12), 12);
        int[][] wrong = {{-1, 0, 0}, {64, 0, 0}, {LOW, 0, 0}, {HIGH, 0, 0}, {0, -1, 1}, {0, LOW, 1}, {0, 0, -1},
            {0, 0, 4097}, {0, 0, LOW}, {0, 0, HIGH}};
        for (int[] call : wrong) {
            Due.same("read " + call[0] + " " + call[1] + " " + call[2], x.read(call[0], call[1], call[2]),
                    SharedBlocks.BAD);
            Due.same("nothing was taken", x.taken(), 0);
            Due.same("the out stays", x.out(1), 0x01010101L);
        }
        int second = x.number(0, 0);
        x.patch(second, 0);
        Due.same("a spoilt block", x.read(0, 4095, 3), SharedBlocks.SPOILT);
        Due.same("nothing was taken", x.taken(), 0);
        Due.same("the out stays", x.out(1), 0x01010101L);
        Due.same("one that is not needed", x.read(0, 0, 4096), 4096);
        Due.same("one was taken", x.taken(), 1);
        Due.same("the spoilt one alone", x.read(0, 4096, 1), SharedBlocks.SPOILT);
        Due.same("none of it", x.read(0, 4096, 0), 0);
        Due.same("behind the end", x.read(0, 8192, 100), 0);
    }

    /** Promise 16. */
    private static void out() {
        SharedBlocks x = fresh();
        x.feed(0x1716151413121110L, 8);
        x.feed(0x1a1918, 3);
        x.write(0, 1);
        x.put(12, false, true);
        x.read(0, 0, 11);
        Due.same("out 0", x.out(0), 0x1716151413121110L);
        Due.same("out 1", x.out(1), 0x1a1918L);
        for (int i : new int[] {2, 512, -1, LOW, HIGH, 1 << 29, (1 << 29) + 1}) {
            Due.same("out " + i, x.out(i), 0);
        }
        x.read(0, 1, 2);
        Due.same("a shorter out", x.out(0), 0x1211);
        Due.same("nothing behind it", x.out(1), 0);
        x.put(12, true, true);
        x.clear(0);
        x.cut(0);
        Due.same("the out is apart", x.out(0), 0x1211);
        x.read(0, 11, 4);
        Due.same("no bytes", x.out(0), 0);
    }

    /** Promise 17. */
    private static void taken() {
        SharedBlocks x = fresh();
        x.fill(0, 0, 1, 4096);
        x.fill(0, 0, 0, 4096);
        x.fill(0, 1, 5, 10);
        x.put(12, true, true);
        Due.same("before the first read", x.taken(), 0);
        int[][] due = {{0, 0, 1, 1}, {0, 4090, 6, 1}, {0, 4090, 7, 1}, {0, 5000, 100, 0}, {0, 8190, 3, 1},
            {0, 4095, 4096, 1}, {0, 4097, 4096, 1}, {0, 8192, 1, 1}, {0, 8202, 1, 0}, {0, 0, 0, 0}};
        for (int[] call : due) {
            x.read(call[0], call[1], call[2]);
            Due.same("taken of " + call[1] + " " + call[2], x.taken(), call[3]);
            Due.same("taken again", x.taken(), call[3]);
        }
        x.read(0, 0, 1);
        x.word(0);
        x.put(12, false, false);
        Due.same("other calls leave it", x.taken(), 1);
        x.read(0, 8190, 12);
        Due.same("without fragments", x.taken(), 1);
        x.read(64, 0, 1);
        Due.same("behind one that was not done", x.taken(), 0);
        x.read(0, 0, 1);
        x.cut(0);
        x.read(0, 0, 1);
        Due.same("behind a spoilt one", x.taken(), 0);
    }
}
