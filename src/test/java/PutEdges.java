/** The edges of putting: promises 6 to 11, and what the terms say of it. */
final class PutEdges {
    private static final String TERMS = "Terms";
    private static final int RAW = 16777216;
    private static final int LOW = Integer.MIN_VALUE, HIGH = Integer.MAX_VALUE;
    private static final int BAD = SharedBlocks.BAD, NONE = SharedBlocks.NONE;
    private static final int[] NO_FILES = {-1, 64, -64, 65, LOW, HIGH};

    private PutEdges() {
    }

    static void run() {
        rowUpTo();
        blockNumbers();
        emptyRow();
        blocksOfLog();
        sharedFiles();
        notShared();
        filesWithoutBytes();
        shorterRest();
        behindWhatIsThere();
        restsBeginNext();
        closedBehindBlocks();
        withoutFragments();
        zerosAlone();
        fragmentOfZeros();
        packedIfShorter();
        packingNotWished();
        lastFragment();
        beginWithoutBlocks();
        beginOfFirst();
        withoutRest();
        kept();
        putAll();
        putLog();
        putFull();
        aboutFacts();
        aboutZeros();
        aboutBefore();
        aboutBad();
        numberFromZero();
        numberBad();
        numberNone();
        howManyFragments();
        fragmentFacts();
        fragmentBad();
        fragmentNone();
        rowSize();
    }

    private static SharedBlocks with(int... kindsAndCounts) {
        SharedBlocks x = new SharedBlocks();
        for (int i = 0; i < kindsAndCounts.length; i += 2) {
            fill(x, i / 2, kindsAndCounts[i], kindsAndCounts[i + 1]);
        }
        return x;
    }

    /** Zeros for 0, otherwise bytes drawn from the kind. */
    private static void fill(SharedBlocks x, int file, int kind, int n) {
        if (n > 0) {
            x.fill(file, kind == 0 ? 0 : 1, kind, n);
        }
    }

    private static void rowUpTo() {
        Doc.says(TERMS, "THE ROW is a row of at most 131072 bytes, at first none.");
        Due.same("at first", new SharedBlocks().size(), 0);
        // As much as files can have is not packed shorter, and half of what the row may have.
        SharedBlocks x = with(1, 65536);
        for (int kind = 0; kind < 4; kind++) {
            Due.same("the longest row", x.put(16, (kind & 1) == 1, (kind & 2) == 2), 65536);
            Due.same("its size", x.size(), 65536);
        }
        Due.same("its last byte", x.patch(65535, 1) >= 0 ? 1 : 0, 1);
        Due.same("none behind it", x.patch(65536, 1), NONE);
    }

    private static void blockNumbers() {
        Doc.says(TERMS, "A BLOCK NUMBER: 0, a block of zeros, nowhere; otherwise how many bytes it has in the row, and"
                + " 16777216 more if they are the block as it is; otherwise they are a packed row of it.");
        SharedBlocks x = with(0, 1, 1, 1, 0, 4096, 1, 4096);
        x.fill(4, 0, 97, 11);
        x.fill(5, 0, 97, 10);
        Due.same("put", x.put(12, true, false), 1 + 4096 + 10 + 10);
        int[] due = {0, RAW + 1, 0, RAW + 4096, 10, RAW + 10};
        for (int file = 0; file < due.length; file++) {
            Due.same("number of " + file, x.number(file, 0), due[file]);
        }
        Due.same("a packed row begins with 120", x.patch(4097, 0), 120);
        Due.same("the block as it is", x.patch(4107, 0), 97);
        x = with(1, 65536);
        x.put(16, true, true);
        Due.same("the largest", x.number(0, 0), RAW + 65536);
        x = with(0, 65536);
        Due.same("zeros alone", x.put(16, true, true), 0);
        Due.same("the largest of zeros", x.number(0, 0), 0);
    }

    private static void emptyRow() {
        Doc.says(TERMS, "PUTTING all files, with blocks of 2 ^ LOG bytes, begins with an empty row.");
        SharedBlocks x = with(1, 5000);
        for (int i = 0; i < 3; i++) {
            Due.same("put again", x.put(12, true, true), 5000);
        }
        x.cut(17);
        Due.same("put behind a cut", x.put(12, true, true), 5000);
        Due.same("its begin", x.about(0, 2), 0);
        x.clear(0);
        Due.same("put nothing", x.put(12, true, true), 0);
        Due.same("nothing is there", x.size(), 0);
        // As many blocks and fragments each time as there can be.
        for (int i = 0; i < 40; i++) {
            SharedBlocks many = i == 0 ? with(1, 4095, 2, 61441) : x;
            x = many;
            Due.same("put 65536 again", x.put(12, false, i % 2 == 0), 65536);
            Due.same("its last whole block", x.number(1, 14), RAW + 4096);
            Due.same("its rest", x.number(1, 15), i % 2 == 0 ? NONE : RAW + 1);
            Due.same("fragments", x.fragments(), i % 2 == 0 ? 1 : 0);
            Due.same("read its end", x.read(1, 61436, 9), 5);
        }
        x.clear(0);
        x.clear(1);
        x.put(12, true, true);
        Due.same("no byte", x.patch(0, 1), NONE);
    }

    private static void blocksOfLog() {
        Doc.says(TERMS, "Otherwise it is cut in blocks;");
        for (int log = 12; log <= 16; log++) {
            int block = 1 << log;
            for (int n = block - 1; n <= Math.min(block + 1, 65536); n++) {
                blocksAre(log, n, true);
                blocksAre(log, n, false);
            }
            if (log < 16) {
                for (int n = 2 * block - 1; n <= Math.min(2 * block + 1, 65536); n++) {
                    blocksAre(log, n, true);
                    blocksAre(log, n, false);
                }
            }
        }
    }

    private static void blocksAre(int log, int n, boolean fragments) {
        String name = n + " bytes by " + log + (fragments ? " with fragments" : "");
        int block = 1 << log;
        SharedBlocks x = with(n, n);
        Due.same(name + ": put", x.put(log, false, fragments), n);
        int rest = fragments ? n % block : 0;
        int blocks = fragments ? n / block : (n + block - 1) / block;
        Due.same(name + ": blocks", x.about(0, 3), blocks);
        for (int i = 0; i < blocks; i++) {
            Due.same(name + ": number " + i, x.number(0, i), RAW + Math.min(block, n - i * block));
        }
        Due.same(name + ": no more", x.number(0, blocks), NONE);
        Due.same(name + ": fragment", x.about(0, 4), rest > 0 ? 0 : NONE);
        Due.same(name + ": fragments", x.fragments(), rest > 0 ? 1 : 0);
        Due.same(name + ": the fragment's number", x.fragment(0, 1), rest > 0 ? RAW + rest : NONE);
        Due.same(name + ": the fragment's begin", x.fragment(0, 0), rest > 0 ? n - rest : NONE);
    }

    private static void shareIs(SharedBlocks x, int file, int with, boolean same) {
        boolean all = true;
        for (int what = 2; what <= 5; what++) {
            all = all && x.about(file, what) == x.about(with, what);
        }
        Due.holds(file + (same ? " shares with " : " does not share with ") + with, all == same);
    }

    private static void sharedFiles() {
        Doc.says(TERMS, "Files by their numbers: one whose bytes are just those of one with a lesser number (and that"
                + " has some) shares BEGIN, BLOCKS, FRAGMENT and OFFSET with that.");
        for (int n : new int[] {1, 2, 4095, 4096, 4097, 10000}) {
            for (int kind = 0; kind < 4; kind++) {
                boolean packing = (kind & 1) == 1;
                boolean fragments = (kind & 2) == 2;
                SharedBlocks x = with(1, 7000, 2, n, 3, 100);
                int alone = x.put(12, packing, fragments);
                fill(x, 3, 2, n);
                fill(x, 62, 2, n);
                x.fill(63, 0, 0, 5);
                int begin = x.about(1, 2);
                x.clear(63);
                fill(x, 63, 2, n);
                Due.same("four of them take no more than one", x.put(12, packing, fragments), alone);
                Due.same("the first one's begin", x.about(1, 2), begin);
                for (int file : new int[] {3, 62, 63}) {
                    shareIs(x, file, 1, true);
                    Due.same("its number", x.number(file, 0), x.number(1, 0));
                    Due.same("its size", x.about(file, 1), n);
                    Due.same("its bytes are read", x.read(file, 0, 4096), Math.min(n, 4096));
                }
                // A file with a lesser number comes to it: now that one is the first, and the others share with it.
                x.clear(0);
                fill(x, 0, 2, n);
                x.put(12, packing, fragments);
                shareIs(x, 1, 0, true);
                shareIs(x, 63, 0, true);
                Due.same("the first one's begin", x.about(0, 2), 0);
            }
        }
    }

    private static void notShared() {
        Doc.says(TERMS, "just those of one with a lesser number");
        for (int n : new int[] {1, 100, 4096, 4100}) {
            for (int way = 0; way < 4; way++) {
                SharedBlocks x = new SharedBlocks();
                x.fill(4, 0, 6, n);
                if (way == 0) {
                    // One byte more, one byte less, the last or the first one another.
                    x.fill(9, 0, 6, n + 1);
                } else if (way == 1 && n > 1) {
                    x.fill(9, 0, 6, n - 1);
                } else if (way == 2) {
                    fill(x, 9, 0, 0);
                    if (n > 1) {
                        x.fill(9, 0, 6, n - 1);
                    }
                    x.fill(9, 0, 7, 1);
                } else {
                    x.fill(9, 0, 7, 1);
                    if (n > 1) {
                        x.fill(9, 0, 6, n - 1);
                    }
                }
                int size = x.about(4, 0) + x.about(9, 0);
                Due.same("two of " + n + ", way " + way, x.put(12, false, true), size);
                shareIs(x, 9, 4, false);
                x.put(12, false, false);
                shareIs(x, 9, 4, false);
            }
        }
        // The same bytes in blocks alone are not shared.
        SharedBlocks x = with(5, 4096, 5, 4096);
        fill(x, 1, 6, 1);
        Due.same("a block as another file's", x.put(12, false, false), 4096 + 4097);
    }

    private static void filesWithoutBytes() {
        Doc.says(TERMS, "(and that has some)");
        SharedBlocks x = with(1, 100);
        x.fill(2, 0, 0, 4096);
        x.put(12, true, false);
        for (int file : new int[] {1, 3, 63}) {
            Due.same("begin of an empty " + file, x.about(file, 2), 0);
            Due.same("blocks", x.about(file, 3), 0);
            Due.same("fragment", x.about(file, 4), NONE);
            Due.same("offset", x.about(file, 5), 0);
        }
        x = new SharedBlocks();
        x.fill(5, 0, 1, 1);
        x.put(12, true, true);
        Due.same("empty ones before and behind", x.about(4, 4) + x.about(6, 4), 2 * NONE);
        Due.same("one with a byte", x.about(5, 4), 0);
    }

    private static void shorterRest() {
        Doc.says(TERMS, "a shorter rest goes to a fragment, if there are any:");
        for (int n : new int[] {1, 4095, 4096, 4097, 8191, 8192, 8193}) {
            SharedBlocks x = with(1, n);
            x.put(12, false, true);
            Due.same("the fragment of " + n, x.about(0, 4), n % 4096 > 0 ? 0 : NONE);
            Due.same("its bytes", x.fragment(0, 1), n % 4096 > 0 ? RAW + n % 4096 : NONE);
            x.put(12, false, false);
            Due.same("none without fragments", x.about(0, 4), NONE);
            Due.same("none at all", x.fragments(), 0);
        }
        SharedBlocks x = with(0, 4100);
        x.put(12, false, true);
        Due.same("a rest of zeros, too", x.about(0, 4), 0);
    }

    private static void behindWhatIsThere() {
        Doc.says(TERMS, "behind what is in the fragment at hand, if both are not more than a block together;");
        for (int log = 12; log <= 14; log++) {
            int block = 1 << log;
            for (int first : new int[] {1, 100, block / 2, block - 2, block - 1}) {
                for (int both = block - 1; both <= block + 1; both++) {
                    int second = both - first;
                    if (second > 0 && second < block) {
                        SharedBlocks x = with(1, first, 2, second);
                        x.put(log, false, true);
                        boolean fits = both <= block;
                        String name = first + " and " + second + " by " + log;
                        Due.same(name + ": fragments", x.fragments(), fits ? 1 : 2);
                        Due.same(name + ": fragment", x.about(1, 4), fits ? 0 : 1);
                        Due.same(name + ": offset", x.about(1, 5), fits ? first : 0);
                        Due.same(name + ": number", x.fragment(0, 1), RAW + (fits ? both : first));
                    }
                }
            }
        }
        SharedBlocks x = with(1, 4000, 2, 95, 3, 1, 4, 1);
        x.put(12, false, true);
        for (int file = 0; file < 4; file++) {
            Due.same("fragment of " + file, x.about(file, 4), file < 3 ? 0 : 1);
            Due.same("offset of " + file, x.about(file, 5), new int[] {0, 4000, 4095, 0}[file]);
        }
    }

    private static void restsBeginNext() {
        Doc.says(TERMS, "otherwise that fragment is closed first, and the rest begins the next one.");
        SharedBlocks x = with(1, 4000, 2, 97, 3, 50, 4, 3950, 5, 46);
        Due.same("put", x.put(12, false, true), 4000 + 97 + 50 + 3950 + 46);
        // The third one would have room in the first one, but that is closed.
        int[][] due = {{0, 0}, {1, 0}, {1, 97}, {2, 0}, {2, 3950}};
        for (int file = 0; file < due.length; file++) {
            Due.same("fragment of " + file, x.about(file, 4), due[file][0]);
            Due.same("offset of " + file, x.about(file, 5), due[file][1]);
        }
        Due.same("fragments", x.fragments(), 3);
        int[] begins = {0, 4000, 4147};
        int[] counts = {4000, 147, 3996};
        for (int i = 0; i < 3; i++) {
            Due.same("begin of " + i, x.fragment(i, 0), begins[i]);
            Due.same("number of " + i, x.fragment(i, 1), RAW + counts[i]);
        }
    }

    private static void closedBehindBlocks() {
        Doc.says(TERMS, "all others, and fragments when they are closed, are put behind the row so far,");
        // The second file's block comes before its rest closes the fragment at hand.
        SharedBlocks x = with(1, 4000, 2, 4096 + 97, 3, 8192);
        Due.same("put", x.put(12, false, true), 4000 + 4193 + 8192);
        Due.same("the second file's block", x.about(1, 2), 0);
        Due.same("the first fragment", x.fragment(0, 0), 4096);
        Due.same("the third file's blocks", x.about(2, 2), 8096);
        Due.same("the second fragment", x.fragment(1, 0), 8096 + 8192);
        // A fragment that is full to the last byte stays at hand until the next rest comes.
        x = with(1, 4095, 2, 1, 3, 4096, 4, 1);
        x.put(12, false, true);
        Due.same("a block before it", x.about(2, 2), 0);
        Due.same("the full one", x.fragment(0, 0), 4096);
        Due.same("its number", x.fragment(0, 1), RAW + 4096);
        Due.same("the next one", x.fragment(1, 0), 8192);
    }

    private static void withoutFragments() {
        Doc.says(TERMS, "Without fragments it is a block, too.");
        for (int n : new int[] {1, 4095, 4096, 4097}) {
            SharedBlocks x = with(1, n);
            x.put(12, false, false);
            Due.same("blocks of " + n, x.about(0, 3), n > 4096 ? 2 : 1);
            Due.same("the last one", x.number(0, n > 4096 ? 1 : 0), RAW + (n > 4096 ? n - 4096 : n));
            Due.same("no fragment", x.about(0, 4), NONE);
            Due.same("no offset", x.about(0, 5), 0);
        }
    }

    private static void zerosAlone() {
        Doc.says(TERMS, "A block of zeros alone is told by 0;");
        for (int n : new int[] {1, 4095, 4096, 4097, 8192}) {
            SharedBlocks x = with(0, n);
            Due.same(n + " zeros", x.put(12, true, false), 0);
            for (int i = 0; i <= (n - 1) / 4096; i++) {
                Due.same("number " + i, x.number(0, i), 0);
            }
            for (int at : new int[] {0, n / 2, n - 1}) {
                x = new SharedBlocks();
                fill(x, 0, 0, at);
                x.fill(0, 0, 1, 1);
                fill(x, 0, 0, n - at - 1);
                x.put(12, false, false);
                for (int i = 0; i <= (n - 1) / 4096; i++) {
                    int due = i == at / 4096 ? RAW + Math.min(4096, n - 4096 * i) : 0;
                    Due.same("number " + i + " of " + n + " with a one at " + at, x.number(0, i), due);
                }
            }
        }
    }

    private static void fragmentOfZeros() {
        Doc.says(TERMS, "and fragments when they are closed, are put behind the row");
        for (int n : new int[] {1, 10, 4095}) {
            SharedBlocks x = with(0, n);
            Due.same("a fragment of " + n + " zeros", x.put(12, false, true), n);
            Due.same("its number", x.fragment(0, 1), RAW + n);
            Due.same("none in blocks of zeros", x.about(0, 6), 0);
            Due.same("read", x.read(0, 0, 4096), n);
            Due.same("it is taken", x.taken(), 1);
        }
    }

    private static void packedIfShorter() {
        Doc.says(TERMS, "packed if that makes them shorter (and packing is wished), otherwise as they are.");
        // Of nine, ten and eleven a's a packed row has ten bytes.
        for (int n = 9; n <= 11; n++) {
            for (int lead = 0; lead < 2; lead++) {
                SharedBlocks x = new SharedBlocks();
                fill(x, 0, 7, 4096 * lead);
                x.fill(0, 0, 97, n);
                Due.same(n + " as a fragment", x.put(12, true, true), 4096 * lead + Math.min(n, 10));
                Due.same("its number", x.fragment(0, 1), n < 11 ? RAW + n : 10);
                Due.same("its begin", x.fragment(0, 0), 4096 * lead);
                Due.same(n + " as a block", x.put(12, true, false), 4096 * lead + Math.min(n, 10));
                Due.same("its number", x.number(0, lead), n < 11 ? RAW + n : 10);
                Due.same("read", x.read(0, 4096 * lead, 99), n);
                Due.same("its last byte", x.out(n / 8) >>> 8 * (n % 8) - 8 & 255, n % 8 == 0 ? x.out(1) & 255 : 97);
            }
        }
        // What is drawn is not packed shorter, however long; what follows lies directly behind it.
        SharedBlocks x = with(3, 4096, 0, 0);
        x.fill(1, 0, 97, 11);
        Due.same("as it is, and packed", x.put(12, true, false), 4106);
        Due.same("as it is", x.number(0, 0), RAW + 4096);
        Due.same("packed behind it", x.about(1, 2), 4096);
    }

    private static void packingNotWished() {
        Doc.says(TERMS, "(and packing is wished)");
        for (int n : new int[] {9, 11, 4096, 5000}) {
            SharedBlocks x = new SharedBlocks();
            x.fill(0, 0, 97, n);
            Due.same(n + " as they are", x.put(12, false, true), n);
            Due.same(n + " as blocks", x.put(12, false, false), n);
            Due.same("its number", x.number(0, 0), RAW + Math.min(n, 4096));
            Due.holds("with packing it is shorter but for 9", x.put(12, true, true) < n == n > 9);
        }
    }

    private static void lastFragment() {
        Doc.says(TERMS, "At the end the last fragment is closed, if it has bytes.");
        for (int n = 4095; n <= 4097; n++) {
            SharedBlocks x = with(1, n);
            x.put(12, false, true);
            Due.same("fragments of " + n, x.fragments(), n == 4096 ? 0 : 1);
            Due.same("size", x.size(), n);
        }
        SharedBlocks x = with(1, 4000, 2, 4000);
        x.put(12, false, true);
        Due.same("the last of two", x.fragment(1, 0), 4000);
        Due.same("nothing is left for the next putting", x.put(12, false, true), 8000);
        Due.same("two again", x.fragments(), 2);
        x.clear(0);
        x.clear(1);
        x.put(12, false, true);
        Due.same("none without bytes", x.fragments(), 0);
    }

    private static void beginWithoutBlocks() {
        Doc.says(TERMS, "A file without blocks has the begin 0,");
        SharedBlocks x = with(1, 5000, 2, 100, 3, 0, 4, 4096);
        x.put(12, false, true);
        Due.same("a rest alone", x.about(1, 2), 0);
        Due.same("its blocks", x.about(1, 3), 0);
        Due.same("no bytes", x.about(2, 2), 0);
        Due.same("a block", x.about(3, 2), 4096);
        x.put(12, false, false);
        Due.same("a rest as a block", x.about(1, 2), 5000);
        Due.same("no bytes", x.about(2, 2), 0);
    }

    private static void beginOfFirst() {
        Doc.says(TERMS, "otherwise it is where the row ended when its first block came, also if that is one of zeros;");
        for (int lead = 0; lead <= 2; lead++) {
            SharedBlocks x = with(1, lead, 0, 4096, 2, 1, 0, 4097);
            x.put(12, false, false);
            Due.same("zeros behind " + lead, x.about(1, 2), lead);
            Due.same("one behind them", x.about(2, 2), lead);
            Due.same("zeros behind that", x.about(3, 2), lead + 1);
        }
        // A fragment that is closed between two files' blocks comes before the second one's begin.
        SharedBlocks x = with(1, 4095, 2, 2, 0, 4096, 3, 4096);
        x.put(12, false, true);
        Due.same("zeros behind a closed fragment", x.about(2, 2), 4095);
        Due.same("others behind it", x.about(3, 2), 4095);
        // Packed, the row ends where the packed row does.
        x = new SharedBlocks();
        x.fill(0, 0, 97, 11);
        x.fill(1, 0, 0, 9);
        x.fill(2, 0, 98, 11);
        x.put(12, true, false);
        Due.same("zeros behind a packed row", x.about(1, 2), 10);
        Due.same("a packed row behind it", x.about(2, 2), 10);
    }

    private static void withoutRest() {
        Doc.says(TERMS, "without a rest in a fragment its fragment is NONE, its offset 0.");
        SharedBlocks x = with(1, 10, 2, 4096, 3, 4097, 4, 8192, 5, 0);
        x.put(12, true, true);
        int[] fragments = {0, NONE, 0, NONE, NONE};
        int[] offsets = {0, 0, 10, 0, 0};
        for (int file = 0; file < 5; file++) {
            Due.same("fragment of " + file, x.about(file, 4), fragments[file]);
            Due.same("offset of " + file, x.about(file, 5), offsets[file]);
        }
        x.put(12, true, false);
        for (int file = 0; file < 5; file++) {
            Due.same("no fragment of " + file, x.about(file, 4), NONE);
            Due.same("no offset of " + file, x.about(file, 5), 0);
        }
    }

    private static void kept() {
        Doc.says(TERMS, "Files KEEP what was put of them until the next putting, with their size then.");
        SharedBlocks x = with(1, 4100, 2, 5);
        x.put(12, true, true);
        x.clear(0);
        x.fill(1, 0, 3, 9000);
        x.fill(2, 0, 3, 9000);
        Starts.feed(x, 4);
        x.write(3, 1);
        x.put(17, false, false);
        int[][] due = {{0, 4100, 0, 1, 0, 0, 0}, {9005, 5, 0, 0, 0, 4, 0}, {9000, 0, 0, 0, NONE, 0, 0},
            {4, 0, 0, 0, NONE, 0, 0}};
        for (int file = 0; file < due.length; file++) {
            for (int what = 0; what < 7; what++) {
                Due.same("about " + file + " " + what, x.about(file, what), due[file][what]);
            }
        }
        Due.same("read what is cleared", x.read(0, 4090, 20), 10);
        Due.same("read no more than was put", x.read(1, 0, 20), 5);
        Due.same("read what was not put", x.read(2, 0, 20), 0);
        x.put(12, true, true);
        Due.same("the next putting", x.about(0, 1), 0);
        Due.same("the size now", x.about(1, 1), 9005);
        Due.same("read it", x.read(1, 0, 20), 20);
        Due.same("the cleared one has no blocks", x.about(0, 3), 0);
        Due.same("and no fragment", x.about(0, 4), NONE);
    }

    private static void putAll() {
        Doc.says("Promise 6", "Puts all files: how many bytes the row has.");
        for (int n : new int[] {0, 1, 4095, 4096, 4097, 65536}) {
            SharedBlocks x = with(5, n);
            Due.same("put " + n, x.put(12, false, true), n);
            Due.same("size", x.size(), n);
            Due.same("put " + n + " with packing", x.put(12, true, true), n);
        }
        SharedBlocks x = new SharedBlocks();
        for (int file = 0; file < 64; file++) {
            fill(x, file, file + 1, 1000);
        }
        Due.same("put 64", x.put(13, false, true), 64000);
        for (int file = 0; file < 64; file++) {
            Due.same("size of " + file, x.about(file, 1), 1000);
            Due.same("fragment of " + file, x.about(file, 4), file / 8);
            Due.same("read " + file, x.read(file, 999, 3), 1);
        }
    }

    private static void putLog() {
        Doc.says("Promise 6", "BAD: log is not 12 .. 16;");
        for (int log : new int[] {11, 17, 0, -1, 12 + 32, 16 + 32, LOW, HIGH}) {
            Stays.refused("log " + log, Starts::rich, x -> x.put(log, true, true), BAD);
            Stays.refused("log " + log + " of a spoilt one", Starts::spoilt, x -> x.put(log, false, false), BAD);
        }
        for (int log = 12; log <= 16; log++) {
            SharedBlocks x = with(1, 65536);
            Due.same("log " + log, x.put(log, false, false), 65536);
            Due.same("its blocks", x.about(0, 3), 65536 >> log);
        }
    }

    private static void putFull() {
        Doc.says("Promise 6", "FULL: that would be more than 131072, and nothing is changed.");
        // Files have 65536 bytes together at most, and none of them takes more of the row: it is never refused.
        for (int log = 12; log <= 16; log += 2) {
            for (int kind = 0; kind < 4; kind++) {
                SharedBlocks x = new SharedBlocks();
                for (int file = 0; file < 64; file++) {
                    fill(x, file, file + 1, 1024);
                }
                Due.same("as many as can be", x.put(log, (kind & 1) == 1, (kind & 2) == 2), 65536);
            }
        }
    }

    private static void aboutFacts() {
        Doc.says("Promise 7", "Of a file: what = 0 how many bytes it has, 1 how many it had when it was put, 2 begin, 3"
                + " how many blocks, 4 fragment, 5 offset,");
        SharedBlocks x = with(1, 100, 2, 4000, 3, 3 * 4096 + 7, 0, 4096);
        x.put(12, false, true);
        x.fill(2, 0, 1, 5);
        int[][] due = {{100, 100, 0, 0, 0, 0, 0}, {4000, 4000, 0, 0, 1, 0, 0}, {12300, 12295, 100, 3, 1, 4000, 0},
            {4096, 4096, 100 + 12288, 1, NONE, 0, 4096}};
        for (int file = 0; file < due.length; file++) {
            for (int what = 0; what < 7; what++) {
                Due.same("about " + file + " " + what, x.about(file, what), due[file][what]);
            }
        }
    }

    private static void aboutZeros() {
        Doc.says("Promise 7", "6 how many bytes in blocks of zeros (of a last, shorter one its own);");
        for (int n : new int[] {1, 4095, 4096, 4097, 8191, 8192, 8193}) {
            SharedBlocks x = with(0, n);
            x.put(12, true, false);
            Due.same(n + " in blocks", x.about(0, 6), n);
            x.put(12, true, true);
            Due.same(n + " and a fragment", x.about(0, 6), n / 4096 * 4096);
            x.fill(0, 0, 1, 1);
            x.put(12, true, false);
            Due.same(n + " and a one", x.about(0, 6), n / 4096 * 4096);
            x.fill(1, 0, 0, n);
            x.fill(1, 0, 1, 1);
            x.put(12, true, false);
            Due.same("the same of one that shares", x.about(1, 6), n / 4096 * 4096);
        }
    }

    private static void aboutBefore() {
        Doc.says("Promise 7", "0 (the fragment NONE) before anything was put.");
        SharedBlocks x = with(1, 9000);
        for (int file = 0; file < 64; file += 21) {
            for (int what = 0; what < 7; what++) {
                int due = what == 0 && file == 0 ? 9000 : what == 4 ? NONE : 0;
                Due.same("about " + file + " " + what, x.about(file, what), due);
            }
        }
        x.put(11, true, true);
        Due.same("a refused putting puts nothing", x.about(0, 1), 0);
        Due.same("no fragment", x.about(0, 4), NONE);
        x.put(12, true, true);
        Due.same("put", x.about(0, 1), 9000);
        Due.same("a fragment", x.about(0, 4), 0);
    }

    private static void aboutBad() {
        Doc.says("Promise 7", "BAD: no such file, or what is none of these.");
        for (int file : NO_FILES) {
            for (int what = 0; what < 7; what += 3) {
                int each = what;
                Stays.refused("about " + file + " " + what, Starts::rich, x -> x.about(file, each), BAD);
            }
        }
        for (int what : new int[] {-1, 7, 8, -2, LOW, HIGH}) {
            for (int file = 0; file < 64; file += 63) {
                int each = file;
                Stays.refused("about " + file + " " + what, Starts::rich, x -> x.about(each, what), BAD);
            }
        }
        Due.same("file 63, what 0", with(1, 5).about(63, 0), 0);
        Due.same("file 0, what 6", with(1, 5).about(0, 6), 0);
    }

    private static void numberFromZero() {
        Doc.says("Promise 8", "Block number i of a file, from 0.");
        SharedBlocks x = with(1, 4096 + 7, 0, 4096, 2, 3 * 4096 + 1);
        x.put(12, false, false);
        int[][] due = {{RAW + 4096, RAW + 7}, {0}, {RAW + 4096, RAW + 4096, RAW + 4096, RAW + 1}};
        for (int file = 0; file < due.length; file++) {
            for (int i = 0; i < due[file].length; i++) {
                Due.same("number " + i + " of " + file, x.number(file, i), due[file][i]);
            }
        }
        x = with(3, 65536);
        x.put(12, false, true);
        Due.same("the first of 16", x.number(0, 0), RAW + 4096);
        Due.same("the last of 16", x.number(0, 15), RAW + 4096);
        Due.same("none behind it", x.number(0, 16), NONE);
    }

    private static void numberBad() {
        Doc.says("Promise 8", "BAD: no such file;");
        for (int file : NO_FILES) {
            for (int i = -1; i <= 1; i++) {
                int each = i;
                Stays.refused("number " + file + " " + i, Starts::rich, x -> x.number(file, each), BAD);
            }
        }
        SharedBlocks x = new SharedBlocks();
        x.fill(63, 0, 1, 1);
        x.put(12, false, false);
        Due.same("file 63", x.number(63, 0), RAW + 1);
        Due.same("file 0", x.number(0, 0), NONE);
    }

    private static void numberNone() {
        Doc.says("Promise 8", "NONE: there is no such block.");
        for (int i : new int[] {-1, 1, 2, LOW, HIGH}) {
            Stays.refused("number 0 " + i, Starts::rich, x -> x.number(0, i), NONE);
        }
        Stays.refused("of a rest alone", Starts::rich, x -> x.number(3, 0), NONE);
        Stays.refused("of a file without bytes", Starts::rich, x -> x.number(40, 0), NONE);
        Stays.refused("of a new object", SharedBlocks::new, x -> x.number(0, 0), NONE);
        for (int n = 4095; n <= 4097; n++) {
            for (int kind = 0; kind < 2; kind++) {
                SharedBlocks x = with(1, 4096, 2, n, 3, 4096);
                x.put(12, false, kind == 1);
                int blocks = kind == 1 ? n / 4096 : (n + 4095) / 4096;
                Due.same("before the first", x.number(1, -1), NONE);
                Due.holds("the last of " + n, blocks == 0 || x.number(1, blocks - 1) > 0);
                Due.same("behind the last of " + n, x.number(1, blocks), NONE);
            }
        }
    }

    private static void howManyFragments() {
        Doc.says("Promise 9", "How many fragments there are.");
        for (int n = 0; n <= 31; n++) {
            SharedBlocks x = new SharedBlocks();
            for (int file = 0; file < n; file++) {
                fill(x, 2 * file, file + 1, 2049);
            }
            x.put(12, false, true);
            Due.same(n + " rests of more than half a block", x.fragments(), n);
            x.put(16, false, true);
            Due.same(n + " rests in large blocks", x.fragments(), n > 0 ? 1 : 0);
            x.put(12, false, false);
            Due.same("without fragments", x.fragments(), 0);
        }
        SharedBlocks x = new SharedBlocks();
        for (int file = 0; file < 64; file++) {
            fill(x, file, file + 1, 1);
        }
        x.put(12, false, true);
        Due.same("64 rests in one", x.fragments(), 1);
        x.put(11, false, false);
        x.cut(0);
        x.clear(0);
        Due.same("they stay until the next putting", x.fragments(), 1);
    }

    private static void fragmentFacts() {
        Doc.says("Promise 10", "Of a fragment: what = 0 where it begins, 1 its block number.");
        SharedBlocks x = with(1, 100, 2, 4096);
        x.fill(2, 0, 97, 4000);
        x.put(12, true, true);
        Due.same("the first one's begin", x.fragment(0, 0), 4096);
        Due.same("the first one's number", x.fragment(0, 1), RAW + 100);
        Due.same("the second one's begin", x.fragment(1, 0), 4196);
        Due.same("the second one's number", x.fragment(1, 1), x.size() - 4196);
        Due.holds("it is packed", x.fragment(1, 1) < 100);
    }

    private static void fragmentBad() {
        Doc.says("Promise 10", "BAD: what is neither;");
        for (int what : new int[] {-1, 2, 3, LOW, HIGH}) {
            for (int i = -1; i <= 1; i++) {
                int each = i;
                Stays.refused("fragment " + i + " " + what, Starts::rich, x -> x.fragment(each, what), BAD);
            }
            Due.same("of a new object", new SharedBlocks().fragment(0, what), BAD);
        }
        Due.same("what 0", Starts.rich().fragment(0, 0), Starts.rich().number(0, 0));
        Due.holds("what 1", Starts.rich().fragment(0, 1) > 0);
    }

    private static void fragmentNone() {
        Doc.says("Promise 10", "NONE: there is no such fragment.");
        for (int i : new int[] {-1, 1, 2, 64, LOW, HIGH}) {
            for (int what = 0; what < 2; what++) {
                int each = what;
                Stays.refused("fragment " + i + " " + what, Starts::rich, x -> x.fragment(i, each), NONE);
            }
        }
        Due.same("of a new object", new SharedBlocks().fragment(0, 0), NONE);
        SharedBlocks x = new SharedBlocks();
        for (int file = 0; file < 31; file++) {
            fill(x, file, file + 1, 2049);
        }
        x.put(12, false, true);
        Due.same("the last of 31", x.fragment(30, 0), 30 * 2049);
        Due.same("its number", x.fragment(30, 1), RAW + 2049);
        Due.same("none behind it", x.fragment(31, 0), NONE);
        x.put(12, false, false);
        Due.same("none is left without fragments", x.fragment(0, 1), NONE);
    }

    private static void rowSize() {
        Doc.says("Promise 11", "How many bytes the row has.");
        SharedBlocks x = with(1, 5000);
        Due.same("before anything was put", x.size(), 0);
        x.put(12, false, true);
        Due.same("when put", x.size(), 5000);
        x.fill(0, 0, 1, 100);
        x.patch(4999, 1);
        x.patch(5000, 1);
        Due.same("no more by filling and patching", x.size(), 5000);
        x.cut(4999);
        Due.same("one less", x.size(), 4999);
        x.cut(0);
        Due.same("none", x.size(), 0);
        x.put(12, false, true);
        Due.same("put again", x.size(), 5100);
    }
}
