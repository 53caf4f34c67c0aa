/** The edges of reading: promises 15 to 17, and what the terms say of it. */
final class ReadEdges {
    private static final String TERMS = "Terms";
    private static final int LOW = Integer.MIN_VALUE, HIGH = Integer.MAX_VALUE;
    private static final int BAD = SharedBlocks.BAD, SPOILT = SharedBlocks.SPOILT;
    private static final int[] NO_FILES = {-1, 64, -64, 65, LOW, HIGH};

    private ReadEdges() {
    }

    static void run() {
        blocksBehindOneAnother();
        zerosTakeNothing();
        restFromOffset();
        asAWhole();
        asAWholePacked();
        unpackedBlock();
        lastBlock();
        fragmentOfRests();
        fragmentOfABlock();
        stretch();
        asItWasPut();
        asFarAsThere();
        noBytes();
        noFile();
        fromBelow0();
        countBad();
        spoilt();
        outStays();
        outBytes();
        takenBlocks();
        takenZeros();
        takenBefore();
        takenNotDone();
    }

    /** Reads a stretch of a file of these bytes, and looks at all of it. */
    private static void readIs(SharedBlocks x, int file, byte[] bytes, int from, int n) {
        int there = Math.max(0, Math.min(n, bytes.length - from));
        String name = "read " + n + " from " + from;
        Due.same(name, x.read(file, from, n), there);
        for (int i = 0; i <= there / 8; i += 1 + there / 256) {
            Due.same(name + ": out " + i, x.out(i), Recipe.eight(bytes, from + 8 * i, Math.min(8, there - 8 * i)));
        }
        Due.same(name + ": the last out", x.out(there / 8),
                Recipe.eight(bytes, from + there / 8 * 8, there % 8));
        Due.same(name + ": none behind it", x.out(there / 8 + 1), 0);
    }

    private static Recipe threeBlocks() {
        return new Recipe().run(1, 4000).drawn(2, 96).drawn(3, 4096).run(4, 4096).drawn(5, 100);
    }

    private static void blocksBehindOneAnother() {
        Doc.says(TERMS, "READING a file: its blocks lie one directly behind the other from its begin on,");
        for (int kind = 0; kind < 4; kind++) {
            SharedBlocks x = new SharedBlocks();
            x.fill(0, 1, 9, 5000);
            Recipe recipe = threeBlocks();
            recipe.make(x, 1);
            x.put(12, (kind & 1) == 1, (kind & 2) == 2);
            for (int border = 4096; border <= 12288; border += 4096) {
                readIs(x, 1, recipe.all(), border - 1, 1);
                readIs(x, 1, recipe.all(), border, 1);
                readIs(x, 1, recipe.all(), border - 1, 2);
            }
            // A byte that is patched in the row comes where the block lies.
            int at = x.about(1, 2);
            for (int i = 0; i < 3; i++) {
                int number = x.number(1, i);
                if (number > 16777216) {
                    x.patch(at, 99);
                    x.read(1, 4096 * i, 1);
                    Due.same("the first byte of block " + i, x.out(0), 99);
                }
                at += number & 16777215;
            }
        }
    }

    private static void zerosTakeNothing() {
        Doc.says(TERMS, "those of zeros take nothing;");
        for (int first = 0; first < 8; first++) {
            Recipe recipe = new Recipe();
            for (int i = 0; i < 3; i++) {
                recipe.run(0, (first >> i & 1) == 0 ? 4096 : 0).drawn(i + 5, (first >> i & 1) == 0 ? 0 : 4096);
            }
            recipe.run(0, 9);
            for (int kind = 0; kind < 2; kind++) {
                SharedBlocks x = new SharedBlocks();
                x.fill(0, 0, 1, 50);
                recipe.make(x, 1);
                x.put(12, false, kind == 1);
                for (int i = 0; i < 3; i++) {
                    readIs(x, 1, recipe.all(), 4096 * i + 4090, 12);
                }
                if (kind == 0) {
                    Due.same("the row ends behind them", x.size(), 50 + 4096 * Integer.bitCount(first));
                }
                x.cut(0);
                Due.same("zeros are nowhere", x.read(1, 0, 9), (first & 1) == 0 ? 9 : SPOILT);
            }
        }
    }

    private static void restFromOffset() {
        Doc.says(TERMS, "its rest is in its fragment's block, from the offset on.");
        for (int kind = 0; kind < 2; kind++) {
            Recipe[] files = {new Recipe().drawn(1, 100), new Recipe().drawn(2, 4096 + 1), new Recipe().run(3, 3000),
                new Recipe().drawn(4, 995), new Recipe().drawn(5, 1)};
            SharedBlocks x = new SharedBlocks();
            for (int file = 0; file < files.length; file++) {
                files[file].make(x, file);
            }
            x.put(12, kind == 1, true);
            int[] offsets = {0, 100, 101, 3101, 0};
            for (int file = 0; file < files.length; file++) {
                Due.same("offset of " + file, x.about(file, 5), offsets[file]);
                int rest = files[file].count() / 4096 * 4096;
                readIs(x, file, files[file].all(), rest, 1);
                readIs(x, file, files[file].all(), files[file].count() - 1, 9);
                readIs(x, file, files[file].all(), rest, 50);
            }
            if (kind == 0) {
                x.patch(x.fragment(0, 0) + 3101, 77);
                x.read(3, 0, 1);
                Due.same("the byte at the offset", x.out(0), 77);
            }
        }
    }

    /** The row is cut at a block's end, one byte before it, and one behind it. */
    private static void cutAt(SharedBlocks x, int end, int file, int from, boolean more) {
        String name = "from " + from + " of " + file;
        if (more) {
            x.cut(end + 1);
            Due.same(name + ": cut one behind it", x.read(file, from, 1), 1);
        }
        x.cut(end);
        Due.same(name + ": cut at its end", x.read(file, from, 1), 1);
        Due.same(name + ": taken", x.taken(), 1);
        x.cut(end - 1);
        Due.same(name + ": cut one before its end", x.read(file, from, 1), SPOILT);
        Due.same(name + ": none taken", x.taken(), 0);
        Due.same(name + ": no byte of it", x.read(file, from, 0), 0);
    }

    private static void asAWhole() {
        Doc.says(TERMS, "A block is SPOILT if it is not in the row as a whole,");
        SharedBlocks x = new SharedBlocks();
        x.fill(0, 1, 1, 4096 + 20);
        x.fill(1, 1, 2, 30);
        x.put(12, false, true);
        cutAt(x, 4096 + 50, 1, 0, false);
        Due.same("another rest of the same fragment", x.read(0, 4096, 1), SPOILT);
        cutAt(x, 4096, 0, 0, true);
        x.put(12, false, false);
        cutAt(x, 4096 + 20 + 30, 1, 0, false);
        cutAt(x, 4096 + 20, 0, 4096, true);
        Due.same("what is behind it", x.read(1, 0, 1), SPOILT);
        cutAt(x, 4096, 0, 0, true);
        x.cut(0);
        Due.same("nothing is there", x.read(0, 0, 1), SPOILT);
    }

    private static void asAWholePacked() {
        Doc.says(TERMS, "not in the row as a whole, or, packed,");
        SharedBlocks x = new SharedBlocks();
        x.fill(0, 0, 1, 4096 + 200);
        x.fill(1, 0, 2, 300);
        x.put(12, true, true);
        cutAt(x, x.size(), 1, 0, false);
        cutAt(x, x.number(0, 0), 0, 0, true);
        x.put(12, true, false);
        cutAt(x, x.size(), 1, 0, false);
        cutAt(x, x.number(0, 0) + x.number(0, 1), 0, 4096, true);
        cutAt(x, x.number(0, 0), 0, 0, true);
    }

    private static byte[] runRow(int n) {
        return Bits.packed().pad(16).part(true, 1).fixedRun(88, n).fixed(256).check(new Recipe().run(88, n).all());
    }

    private static void unpackedBlock() {
        Doc.says(TERMS, "does not unpack, without a fault, to just what it must have");
        for (int log = 12; log <= 14; log++) {
            int block = 1 << log;
            for (int n : new int[] {1, block - 1, block, block + 1, 2 * block}) {
                SharedBlocks x = Patched.block(runRow(n), block, log);
                if (x != null) {
                    Due.same(n + " for " + block, x.read(0, 0, 1), n == block ? 1 : SPOILT);
                    Due.same("taken", x.taken(), n == block ? 1 : 0);
                    Due.same(n + " for " + block + ", its end", x.read(0, block - 1, 1), n == block ? 1 : SPOILT);
                    Due.same("no byte of it", x.read(0, 0, 0), 0);
                }
            }
        }
        SharedBlocks x = Patched.block(Bits.packed().pad(16).stored(true, new byte[0]).check(new byte[0]), 4096, 12);
        if (x != null) {
            Due.same("a row of no bytes", x.read(0, 0, 1), SPOILT);
        }
    }

    private static void lastBlock() {
        Doc.says(TERMS, "to just what it must have");
        for (int whole : new int[] {500, 4000, 4095}) {
            for (int n = whole - 1; n <= whole + 1; n++) {
                SharedBlocks x = Patched.block(runRow(n), whole, 12);
                if (x != null) {
                    Due.same(n + " for a last block of " + whole, x.read(0, 3, 5), n == whole ? 5 : SPOILT);
                }
            }
            SharedBlocks x = Patched.block(runRow(4096), whole, 12);
            if (x != null) {
                Due.same("4096 for a last block of " + whole, x.read(0, 3, 5), SPOILT);
            }
        }
    }

    private static void fragmentOfRests() {
        Doc.says(TERMS, "(of a fragment: at least as much as is looked for,");
        for (int n : new int[] {300, 3999, 4000}) {
            for (int first = n - 1; first <= Math.min(n + 1, 4000); first++) {
                SharedBlocks x = Patched.rests(runRow(n), first, 4000, 12);
                if (x != null) {
                    Due.same("both files have", x.about(0, 1) + x.about(1, 1), 4000);
                    restIs(x, 0, first <= n);
                    restIs(x, 1, 4000 <= n);
                    restIs(x, 0, first <= n);
                }
            }
        }
        // A fragment of 101 bytes becomes one of 100: what ends before is read, also behind blocks, the other is not.
        SharedBlocks x = new SharedBlocks();
        for (int file = 0; file < 4; file += 2) {
            x.fill(file, 0, 9, 4096);
            x.fill(file, 0, 7, 60);
            x.fill(file + 1, 0, 7, 41);
        }
        x.put(12, true, true);
        int begin = x.fragment(0, 0);
        int[][] patches = {{4, 3}, {7, 138}, {8, 122}, {10, 189}};
        for (int[] patch : patches) {
            x.patch(begin + patch[0], patch[1]);
        }
        for (int file = 0; file < 4; file += 2) {
            Due.same("a block before", x.read(file, 0, 4096), 4096);
            Due.same("block and rest", x.read(file, 4090, 100), 66);
            Due.same("two are taken", x.taken(), 2);
            Due.same("the rest", x.read(file, 4096, 4096), 60);
            Due.same("its last byte", x.read(file, 4155, 1), 1);
            for (int[] stretch : new int[][] {{0, 1}, {0, 40}, {0, 41}, {39, 1}, {40, 1}, {40, 4096}}) {
                Due.same("the other file from " + stretch[0], x.read(file + 1, stretch[0], stretch[1]), SPOILT);
            }
        }
    }

    /** Whether a file that is a rest alone, in a fragment of 88 patched over it, can be read, at whatever place. */
    private static void restIs(SharedBlocks x, int file, boolean good) {
        int n = x.about(file, 1);
        long before = x.out(0);
        int most = Math.min(n, 4096);
        int[][] stretches = {{0, 1}, {n - 1, 1}, {n / 2, 1}, {0, most}, {0, most - 1}, {n - 1, 2}, {1, 4096}};
        for (int[] stretch : stretches) {
            int there = Math.min(stretch[1], n - stretch[0]);
            String name = "file " + file + " of " + n + ", " + there + " from " + stretch[0];
            if (n > 0 && there > 0) {
                Due.same(name, x.read(file, stretch[0], stretch[1]), good ? there : SPOILT);
                Due.same(name + ": taken", x.taken(), good ? 1 : 0);
                Due.same(name + ": out", x.out(0) & 255, (good ? 88 : before) & 255);
            }
        }
        Due.same("none of it is needed", x.read(file, 0, 0), 0);
        Due.same("it ends there", x.read(file, n, 1), 0);
    }

    private static void fragmentOfABlock() {
        Doc.says(TERMS, "and not more than a block).");
        for (int log = 12; log <= 14; log++) {
            int block = 1 << log;
            for (int n = block - 1; n <= block + 1; n++) {
                SharedBlocks x = Patched.rests(runRow(n), 100, block - 1, log);
                if (x != null) {
                    restIs(x, 0, n <= block);
                    restIs(x, 1, n <= block);
                }
            }
        }
    }

    private static void stretch() {
        Doc.says("Promise 15", "Reads a stretch of a file as it was put, n bytes from a place on,");
        Recipe recipe = threeBlocks();
        for (int kind = 0; kind < 4; kind++) {
            int[][] stretches = {{0, 1}, {0, 4095}, {0, 4096}, {1, 4095}, {1, 4096}, {4095, 1}, {4095, 2}, {4095, 4096},
                {4096, 4096}, {4097, 4095}, {4097, 4096}, {8191, 4096}, {8192, 4096}, {12287, 2}, {12288, 1}};
            for (int[] each : stretches) {
                SharedBlocks x = new SharedBlocks();
                recipe.make(x, 63);
                x.put(12, (kind & 1) == 1, (kind & 2) == 2);
                readIs(x, 63, recipe.all(), each[0], each[1]);
            }
        }
        recipe = new Recipe().drawn(1, 30000).run(2, 35536);
        SharedBlocks x = new SharedBlocks();
        recipe.make(x, 0);
        x.put(16, true, true);
        readIs(x, 0, recipe.all(), 29000, 4096);
        x.put(12, true, true);
        readIs(x, 0, recipe.all(), 61440, 4096);
    }

    private static void asItWasPut() {
        Doc.says("Promise 15", "as it was put,");
        SharedBlocks x = new SharedBlocks();
        Recipe recipe = threeBlocks();
        recipe.make(x, 5);
        x.put(12, true, true);
        x.fill(5, 0, 1, 5000);
        readIs(x, 5, recipe.all(), recipe.count() - 10, 4096);
        x.clear(5);
        readIs(x, 5, recipe.all(), 4000, 200);
        x.put(9, true, true);
        readIs(x, 5, recipe.all(), 4000, 200);
        x.put(12, true, true);
        readIs(x, 5, new byte[0], 4000, 200);
        x.fill(5, 0, 1, 10);
        readIs(x, 5, new byte[0], 0, 200);
    }

    private static void asFarAsThere() {
        Doc.says("Promise 15", "as far as they are there, into the out: how many");
        for (int n : new int[] {1, 100, 4095, 4096, 4097, 8192}) {
            Recipe recipe = new Recipe().drawn(n, n);
            for (int kind = 0; kind < 4; kind++) {
                SharedBlocks x = new SharedBlocks();
                recipe.make(x, 0);
                x.fill(1, 0, 9, 50);
                x.put(12, (kind & 1) == 1, (kind & 2) == 2);
                for (int from = n - 1; from <= n + 1; from++) {
                    for (int count = 0; count <= 2; count++) {
                        readIs(x, 0, recipe.all(), from, count);
                    }
                }
                for (int count = 9; count <= 11; count++) {
                    readIs(x, 0, recipe.all(), Math.max(0, n - 10), count);
                }
            }
        }
    }

    private static void noBytes() {
        Doc.says("Promise 15", "(0 with none, the out has no bytes then).");
        int[][] none = {{0, 0, 0}, {0, 4096, 0}, {0, 4106, 0}, {0, 4106, 1}, {0, 4107, 4096}, {0, HIGH, 4096},
            {0, HIGH, 0}, {0, HIGH - 4096, 4096}, {0, 8192, 1}, {50, 0, 4096}, {50, 0, 0}, {50, HIGH, 1}, {1, 8197, 1}};
        for (int[] read : none) {
            String name = "read " + read[0] + " " + read[1] + " " + read[2];
            SharedBlocks x = Starts.rich();
            Due.holds("there was an out", x.out(0) != 0);
            Due.same(name, x.read(read[0], read[1], read[2]), 0);
            Due.same(name + ": the out", x.out(0), 0);
            Due.same(name + ": its second word", x.out(1), 0);
            Due.same(name + ": taken", x.taken(), 0);
        }
        // No block is needed for no byte, spoilt or not.
        SharedBlocks x = Starts.rich();
        x.cut(0);
        Due.same("no byte of what is spoilt", x.read(0, 5, 0), 0);
        Due.same("the out", x.out(0), 0);
    }

    private static void noFile() {
        Doc.says("Promise 15", "BAD: no such file,");
        for (int file : NO_FILES) {
            Stays.refusedRead("file " + file, Starts::rich, file, 0, 4096, BAD);
            Stays.refusedRead("file " + file + ", none", Starts::rich, file, 0, 0, BAD);
        }
        Due.same("file 0", Starts.rich().read(0, 0, 4096), 4096);
        Due.same("file 63", Starts.rich().read(63, 0, 4096), 1);
    }

    private static void fromBelow0() {
        Doc.says("Promise 15", "from below 0,");
        for (int from : new int[] {-1, -2, -4096, LOW}) {
            Stays.refusedRead("from " + from, Starts::rich, 0, from, 4096, BAD);
            Stays.refusedRead("from " + from + ", none", Starts::rich, 40, from, 0, BAD);
        }
        Due.same("from 0", Starts.rich().read(0, 0, 4096), 4096);
        Due.same("from 1", Starts.rich().read(0, 1, 4096), 4096);
        Due.same("from the highest number", Starts.rich().read(0, HIGH, 4096), 0);
    }

    private static void countBad() {
        Doc.says("Promise 15", "or n not 0 .. 4096;");
        for (int n : new int[] {-1, 4097, 4098, -4096, LOW, HIGH}) {
            Stays.refusedRead("n " + n, Starts::rich, 0, 0, n, BAD);
            Stays.refusedRead("n " + n + " behind the end", Starts::rich, 0, 9000, n, BAD);
            Stays.refusedRead("n " + n + " of a file without bytes", Starts::rich, 40, 0, n, BAD);
        }
        for (int n : new int[] {0, 1, 4095, 4096}) {
            Due.same("n " + n, Starts.rich().read(0, 0, n), n);
        }
    }

    /** Three blocks and a rest; the second block is spoilt. */
    private static SharedBlocks secondSpoilt() {
        SharedBlocks x = new SharedBlocks();
        x.fill(0, 0, 1, 4096);
        x.fill(0, 0, 2, 4096);
        x.fill(0, 0, 3, 4106);
        x.put(12, true, true);
        x.patch(x.number(0, 0) + 2, 255);
        x.read(0, 8000 + 192, 9);
        return x;
    }

    private static void spoilt() {
        Doc.says("Promise 15", "SPOILT: a block that is needed is;");
        int[][] reads = {{0, 4096}, {4095, 1}, {4095, 2}, {4094, 2}, {4095, 4096}, {4096, 1}, {5000, 1}, {8191, 1},
            {8191, 2}, {8192, 1}, {8190, 3}, {8192, 4096}, {4096, 0}, {0, 0}, {8193, 4096}, {12288, 9}, {12298, 9}};
        for (int[] read : reads) {
            int end = Math.min(read[0] + read[1], 12298);
            boolean needed = read[1] > 0 && read[0] < 8192 && end > 4096;
            int due = Math.max(0, end - read[0]);
            Due.same("read " + read[1] + " from " + read[0], secondSpoilt().read(0, read[0], read[1]),
                    needed ? SPOILT : due);
            if (needed) {
                Stays.refusedRead("read " + read[1] + " from " + read[0], ReadEdges::secondSpoilt, 0, read[0], read[1],
                        SPOILT);
            }
        }
        // One that is spoilt in a fragment does not spoil the blocks, nor another fragment.
        SharedBlocks x = new SharedBlocks();
        x.fill(0, 1, 1, 4096 + 4000);
        x.fill(1, 1, 2, 200);
        x.put(12, true, true);
        x.cut(x.size() - 1);
        Due.same("the last fragment", x.read(1, 0, 1), SPOILT);
        Due.same("the one before", x.read(0, 4000, 4096), 4096);
        Due.same("two are taken", x.taken(), 2);
    }

    private static void outStays() {
        Doc.says("Promise 15", "the out stays.");
        SharedBlocks x = secondSpoilt();
        Due.same("read", x.read(0, 4092, 4), 4);
        for (int i = 0; i < 2; i++) {
            Due.same("read the first block, and the spoilt one", x.read(0, 4000, 4096), SPOILT);
            Due.same("the out", x.out(0), 0x01010101L);
            Due.same("no more of it", x.out(1), 0);
        }
        Due.same("a wrong read", x.read(64, 0, 1), BAD);
        Due.same("the out", x.out(0), 0x01010101L);
        Due.same("read others", x.read(0, 8192, 2), 2);
        Due.same("the out then", x.out(0), 0x0303);
        x = new SharedBlocks();
        x.fill(0, 0, 1, 100);
        x.put(12, false, false);
        x.cut(99);
        Due.same("spoilt at first", x.read(0, 0, 8), SPOILT);
        Due.same("the out has no bytes", x.out(0), 0);
    }

    private static void outBytes() {
        Doc.says("Promise 16", "Eight bytes of the out, as word() has them.");
        for (int n = 0; n <= 17; n++) {
            Recipe recipe = new Recipe().drawn(3, 4096);
            SharedBlocks x = new SharedBlocks();
            recipe.make(x, 0);
            x.put(12, false, true);
            x.read(0, 0, 4096);
            readIs(x, 0, recipe.all(), 7, n);
            for (int i : new int[] {-1, 3, 4, 511, 512, LOW, HIGH, 1 << 29, (1 << 29) + 1, -(1 << 29), HIGH / 8 + 1}) {
                Due.same("out " + i + " of " + n, x.out(i), 0);
            }
        }
        Recipe recipe = new Recipe().drawn(4, 4097);
        SharedBlocks x = new SharedBlocks();
        recipe.make(x, 0);
        x.put(13, false, false);
        x.read(0, 1, 4096);
        Due.same("the first of 512", x.out(0), Recipe.eight(recipe.all(), 1, 8));
        Due.same("the last of 512", x.out(511), Recipe.eight(recipe.all(), 4089, 8));
        Due.same("none behind it", x.out(512), 0);
        x.cut(0);
        x.clear(0);
        x.put(12, true, true);
        x.patch(0, 1);
        Due.same("the out is apart from the row", x.out(511), Recipe.eight(recipe.all(), 4089, 8));
        Due.same("of a new object", new SharedBlocks().out(0), 0);
    }

    private static SharedBlocks mixed(boolean packing, boolean fragments) {
        SharedBlocks x = new SharedBlocks();
        x.fill(0, 0, 1, 4096);
        x.fill(0, 0, 0, 4096);
        x.fill(0, 1, 5, 4096);
        x.fill(0, 0, 9, 10);
        x.put(12, packing, fragments);
        return x;
    }

    private static void takenBlocks() {
        Doc.says("Promise 17", "How many blocks the latest read() unpacked or took, fragments among them,");
        int[][] due = {{0, 1, 1}, {0, 4095, 1}, {0, 4096, 1}, {4095, 1, 1}, {8191, 1, 0}, {8191, 2, 1}, {8192, 1, 1},
            {8192, 4096, 1}, {8193, 4095, 1}, {8193, 4096, 2}, {12287, 1, 1}, {12287, 2, 2}, {12288, 1, 1},
            {12297, 9, 1}, {12298, 9, 0}, {0, 0, 0}, {12288, 0, 0}, {HIGH, 9, 0}};
        for (int kind = 0; kind < 4; kind++) {
            SharedBlocks x = mixed((kind & 1) == 1, (kind & 2) == 2);
            for (int[] read : due) {
                x.read(0, read[0], read[1]);
                Due.same("taken for " + read[1] + " from " + read[0], x.taken(), read[2]);
            }
            x.read(0, 8193, 4096);
            x.out(0);
            x.size();
            x.put(12, true, true);
            x.clear(0);
            x.cut(0);
            Due.same("other calls leave it", x.taken(), 2);
            Due.same("and itself", x.taken(), 2);
        }
    }

    private static void takenZeros() {
        Doc.says("Promise 17", "those of zeros not;");
        for (int kind = 0; kind < 4; kind++) {
            SharedBlocks x = mixed((kind & 1) == 1, (kind & 2) == 2);
            int[][] due = {{4095, 1, 1}, {4095, 2, 1}, {4096, 1, 0}, {4096, 4096, 0}, {4097, 4096, 1}, {4095, 4096, 1}};
            for (int[] read : due) {
                x.read(0, read[0], read[1]);
                Due.same("taken for " + read[1] + " from " + read[0], x.taken(), read[2]);
            }
        }
        SharedBlocks x = new SharedBlocks();
        x.fill(0, 0, 0, 4097);
        x.put(12, true, false);
        x.read(0, 4090, 9);
        Due.same("two blocks of zeros", x.taken(), 0);
        x.put(12, true, true);
        x.read(0, 4090, 9);
        Due.same("zeros in a fragment are taken", x.taken(), 1);
    }

    private static void takenBefore() {
        Doc.says("Promise 17", "0 before the first one,");
        SharedBlocks x = new SharedBlocks();
        Due.same("of a new object", x.taken(), 0);
        x.fill(0, 0, 1, 5000);
        x.put(12, true, true);
        Due.same("before the first read", x.taken(), 0);
        x.read(0, 0, 1);
        Due.same("behind it", x.taken(), 1);
    }

    private static void takenNotDone() {
        Doc.says("Promise 17", "and behind one that was not done.");
        int[][] reads = {{-1, 0, 1}, {64, 0, 1}, {0, -1, 1}, {0, 0, -1}, {0, 0, 4097}, {0, 4095, 2}, {0, 4096, 1}};
        for (int[] read : reads) {
            SharedBlocks x = secondSpoilt();
            x.read(0, 12287, 2);
            Due.same("two were taken", x.taken(), 2);
            Due.holds("not done", x.read(read[0], read[1], read[2]) < 0);
            Due.same("none then", x.taken(), 0);
            x.read(0, 0, 1);
            Due.same("one again", x.taken(), 1);
        }
    }
}
