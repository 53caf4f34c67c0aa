/** The edges of files and of the tape: promises 1 to 5, and what the terms say of them. */
final class FileEdges {
    private static final String TERMS = "Terms";
    private static final int LOW = Integer.MIN_VALUE, HIGH = Integer.MAX_VALUE;
    private static final int BAD = SharedBlocks.BAD, FULL = SharedBlocks.FULL;
    private static final int[] NO_FILES = {-1, 64, -64, 65, LOW, HIGH};

    private FileEdges() {
    }

    static void run() {
        newObject();
        atFirstNone();
        allFiles();
        allTogether();
        tapeUpTo1024();
        usedUp();
        feedBytes();
        feedBad();
        feedFull();
        writeBytes();
        writeEmpty();
        writeNoFile();
        writeTimes();
        writeFull();
        fillKind0();
        fillKind1();
        fillNoFile();
        fillKind();
        fillCount();
        fillFull();
        clearFile();
        clearNoFile();
    }

    private static void newObject() {
        Doc.says("Promise 1", "Files without bytes, nothing put.");
        for (int file = 0; file < 64; file++) {
            SharedBlocks x = new SharedBlocks();
            for (int what = 0; what < 7; what++) {
                Due.same("about " + what + " of file " + file, x.about(file, what), what == 4 ? SharedBlocks.NONE : 0);
            }
            Due.same("number of file " + file, x.number(file, 0), SharedBlocks.NONE);
            Due.same("read of file " + file, x.read(file, 0, 4096), 0);
            Due.same("clear of file " + file, x.clear(file), 0);
        }
        Due.same("put", new SharedBlocks().put(12, true, true), 0);
        Due.same("fragments", new SharedBlocks().fragments(), 0);
        Due.same("fragment", new SharedBlocks().fragment(0, 0), SharedBlocks.NONE);
        Due.same("size", new SharedBlocks().size(), 0);
        Due.same("word", new SharedBlocks().word(0), 0);
        Due.same("patch", new SharedBlocks().patch(0, 1), SharedBlocks.NONE);
        Due.same("cut none", new SharedBlocks().cut(0), 0);
        Due.same("cut one", new SharedBlocks().cut(1), BAD);
        Due.same("out", new SharedBlocks().out(0), 0);
        Due.same("taken", new SharedBlocks().taken(), 0);
        Due.same("the tape, written", new SharedBlocks().write(0, 64), 0);
        Due.same("the tape, fed", new SharedBlocks().feed(1, 1), 1);
        SharedBlocks one = Starts.rich();
        SharedBlocks other = new SharedBlocks();
        Due.same("a new one beside another", other.about(0, 0) + other.size() + other.taken() + other.fragments(), 0);
        Due.same("the other one", one.about(0, 0), 4106);
    }

    private static void atFirstNone() {
        Doc.says(TERMS, "FILES 0 .. 63 each have bytes, at first none,");
        SharedBlocks x = new SharedBlocks();
        for (int file = 0; file < 64; file++) {
            Due.same("file " + file + " at first", x.about(file, 0), 0);
            Due.same("file " + file + " with one more", x.fill(file, 0, file + 1, file + 1), file + 1);
        }
        x.put(12, false, true);
        for (int file = 0; file < 64; file++) {
            x.read(file, 0, 4096);
            Due.same("the last byte of " + file, x.out(file / 8) >>> file % 8 * 8, file + 1);
        }
        for (int file : NO_FILES) {
            Due.same("no file " + file, x.about(file, 0), BAD);
        }
    }

    private static void allFiles() {
        Doc.says(TERMS, "FILES 0 .. 63");
        for (int file : new int[] {0, 1, 62, 63}) {
            SharedBlocks x = new SharedBlocks();
            x.feed(7, 1);
            Due.same("write " + file, x.write(file, 1), 1);
            Due.same("fill " + file, x.fill(file, 0, 1, 1), 2);
            Due.same("about " + file, x.about(file, 0), 2);
            Due.same("put", x.put(12, false, false), 2);
            Due.same("number " + file, x.number(file, 0), 16777216 + 2);
            Due.same("read " + file, x.read(file, 0, 9), 2);
            Due.same("clear " + file, x.clear(file), 2);
        }
    }

    private static void allTogether() {
        Doc.says(TERMS, "all together 65536 at most.");
        SharedBlocks x = new SharedBlocks();
        for (int file = 0; file < 64; file++) {
            Due.same("1024 of file " + file, x.fill(file, 1, file, 1024), 1024);
        }
        Due.same("one more", x.fill(0, 0, 0, 1), FULL);
        Due.same("one less", x.clear(5), 1024);
        Due.same("1025 where 1024 are left", x.fill(6, 0, 0, 1025), FULL);
        Due.same("1023 where 1024 are left", x.fill(5, 0, 0, 1023), 1023);
        x.feed(3, 2);
        Due.same("two where one is left", x.write(63, 1), FULL);
        x.feed(3, 1);
        Due.same("one where one is left", x.write(63, 1), 1025);
        x.feed(3, 1);
        Due.same("one where none is left", x.write(63, 1), FULL);
        Due.same("all are put", x.put(16, false, true), 65536);
    }

    private static void tapeUpTo1024() {
        Doc.says(TERMS, "THE TAPE has up to 1024 bytes;");
        for (int n = 1022; n <= 1025; n++) {
            SharedBlocks x = new SharedBlocks();
            Starts.feed(x, n - n % 8);
            for (int i = n - n % 8; i < n; i++) {
                Due.same("byte " + i, x.feed(i + 1, 1), i < 1024 ? i + 1 : FULL);
            }
            Due.same("all of it comes", x.write(0, 1), Math.min(n, 1024));
        }
    }

    private static void usedUp() {
        Doc.says(TERMS, "each call that reads it uses it up.");
        int[][] writes = {{0, 1}, {0, 64}, {64, 1}, {-1, 1}, {0, 0}, {0, 65}};
        for (int[] write : writes) {
            SharedBlocks x = Starts.rich();
            x.write(write[0], write[1]);
            int before = x.about(1, 0);
            Due.same("nothing is left", x.write(1, 1), before);
            Due.same("it is fed from the beginning", x.feed(3, 2), 2);
        }
        SharedBlocks full = Starts.withFiles(65536);
        Due.same("a full write", full.write(0, 1), FULL);
        Due.same("uses it up, too", full.feed(3, 2), 2);
        SharedBlocks x = Starts.rich();
        x.fill(4, 0, 1, 9);
        x.fill(64, 0, 1, 9);
        x.clear(4);
        x.put(12, true, true);
        x.put(11, true, true);
        x.about(0, 0);
        x.number(0, 0);
        x.fragments();
        x.fragment(0, 0);
        x.size();
        x.word(0);
        x.patch(0, 3);
        x.read(0, 0, 9);
        x.read(-1, 0, 9);
        x.out(0);
        x.taken();
        x.cut(3);
        x.feed(1, 0);
        Due.same("no other call reads it", x.feed(3, 1), 6);
    }

    private static void feedBytes() {
        Doc.says("Promise 2", "Puts the n lowest of eight bytes behind the tape, the lowest one first:"
                + " how many it has.");
        long eight = 0x8877665544332211L;
        for (int n = 1; n <= 8; n++) {
            SharedBlocks x = new SharedBlocks();
            Due.same("the first " + n, x.feed(eight, n), n);
            Due.same("behind them", x.feed(-1L, 1), n + 1);
            Due.same("behind these", x.feed(eight, n), 2 * n + 1);
            x.write(0, 1);
            x.put(12, false, true);
            byte[] made = new byte[2 * n + 1];
            for (int i = 0; i < n; i++) {
                made[i] = (byte) (eight >>> 8 * i);
                made[n + 1 + i] = made[i];
            }
            made[n] = -1;
            for (int i = 0; i < 3; i++) {
                Due.same("word " + i, x.word(i), Recipe.eight(made, 8 * i, 8));
            }
        }
    }

    private static void feedBad() {
        Doc.says("Promise 2", "BAD: n is not 1 .. 8;");
        for (int n : new int[] {0, 9, -1, -8, 10, 16, LOW, HIGH}) {
            Stays.refused("n " + n, Starts::rich, x -> x.feed(0x1122334455667788L, n), BAD);
            Stays.refused("n " + n + " of a new one", SharedBlocks::new, x -> x.feed(-1, n), BAD);
        }
        Due.same("n 1", Starts.rich().feed(1, 1), 6);
        Due.same("n 8", Starts.rich().feed(1, 8), 13);
    }

    private static void feedFull() {
        Doc.says("Promise 2", "FULL.");
        for (int n = 1; n <= 8; n++) {
            int bytes = n;
            for (int had = 1024 - n - 1; had <= 1024; had++) {
                int before = had;
                if (had <= 1024 - n) {
                    Due.same(n + " behind " + had, Starts.withTape(had).feed(3, n), had + n);
                } else {
                    Stays.refused(n + " behind " + had, () -> Starts.withTape(before), x -> x.feed(3, bytes), FULL);
                }
            }
        }
        SharedBlocks x = Starts.withTape(1020);
        Due.same("five are refused", x.feed(0, 5), FULL);
        Due.same("four come", x.feed(0, 4), 1024);
    }

    private static void writeBytes() {
        Doc.says("Promise 3", "come behind a file's, as often as is said: how many it has.");
        for (int times : new int[] {1, 2, 63, 64}) {
            SharedBlocks x = new SharedBlocks();
            x.fill(4, 0, 9, 2);
            x.fill(5, 0, 8, 3);
            x.feed(0x030201, 3);
            Due.same(times + " times", x.write(4, times), 2 + 3 * times);
            Due.same("another file", x.about(5, 0), 3);
            x.put(12, false, true);
            byte[] made = new byte[2 + 3 * times + 3];
            for (int i = 0; i < made.length; i++) {
                made[i] = (byte) (i < 2 ? 9 : i < 2 + 3 * times ? (i - 2) % 3 + 1 : 8);
            }
            for (int i = 0; i <= made.length / 8; i++) {
                Due.same("word " + i, x.word(i), Recipe.eight(made, 8 * i, 8));
            }
        }
        SharedBlocks x = Starts.withTape(1024);
        Due.same("a whole tape, 63 times", x.write(0, 63), 40 + 63 * 1024);
        x.put(16, false, false);
        Due.same("its last bytes", x.word((40 + 63 * 1024) / 8 - 1), 0x00fffefdfcfbfaf9L);
    }

    private static void writeEmpty() {
        Doc.says("Promise 3", "The tape's bytes (none of an empty one)");
        for (int times = 1; times <= 64; times += 63) {
            SharedBlocks x = new SharedBlocks();
            Due.same("none to none", x.write(3, times), 0);
            x.fill(3, 0, 1, 7);
            Due.same("none behind seven", x.write(3, times), 7);
            x.fill(2, 0, 1, 65529);
            Due.same("none to full files", x.write(3, times), 7);
            x.clear(2);
            x.feed(1, 1);
            Due.same("one", x.write(3, times), 7 + times);
        }
    }

    private static void writeNoFile() {
        Doc.says("Promise 3", "BAD: no such file,");
        for (int file : NO_FILES) {
            Stays.refusedWrite("file " + file, Starts::rich, file, 1, BAD);
        }
        for (int file = 0; file < 64; file += 63) {
            int before = Starts.rich().about(file, 0);
            Due.same("file " + file, Starts.rich().write(file, 1), before + 5);
        }
    }

    private static void writeTimes() {
        Doc.says("Promise 3", "or times is not 1 .. 64;");
        for (int times : new int[] {0, 65, -1, 66, 128, LOW, HIGH}) {
            Stays.refusedWrite(times + " times", Starts::rich, 0, times, BAD);
            Stays.refusedWrite(times + " times an empty tape", () -> Starts.withTape(0), 0, times, BAD);
        }
        Due.same("1 time", Starts.rich().write(0, 1), 4111);
        Due.same("64 times", Starts.rich().write(0, 64), 4106 + 320);
    }

    private static void writeFull() {
        Doc.says("Promise 3", "FULL.");
        for (int left = 5; left <= 7; left++) {
            int n = 65536 - left;
            if (left < 6) {
                Stays.refusedWrite("6 where " + left + " are left", () -> Starts.withFiles(n), 9, 1, FULL);
                Stays.refusedWrite("6 to a new file", () -> Starts.withFiles(n), 0, 1, FULL);
            } else {
                Due.same("6 where " + left + " are left", Starts.withFiles(n).write(9, 1), 16);
            }
        }
        for (int left = 6 * 64 - 1; left <= 6 * 64 + 1; left++) {
            int n = 65536 - left;
            if (left < 6 * 64) {
                Stays.refusedWrite("64 times 6 where " + left + " are left", () -> Starts.withFiles(n), 9, 64, FULL);
            } else {
                Due.same("64 times 6 where " + left + " are left", Starts.withFiles(n).write(9, 64), 10 + 6 * 64);
            }
        }
        SharedBlocks x = new SharedBlocks();
        Starts.feed(x, 1024);
        Due.same("all that can be, at once", x.write(63, 64), 65536);
        x = new SharedBlocks();
        x.fill(0, 0, 1, 1);
        Starts.feed(x, 1024);
        Due.same("one more", x.write(63, 64), FULL);
        Due.same("nothing of it came", x.about(63, 0), 0);
    }

    private static void fillKind0() {
        Doc.says("Promise 4", "So many bytes that are b's lowest eight bits (kind 0),");
        int[] bs = {0, 1, 127, 128, 255, 256, 257, 511, -1, -256, -257, LOW, HIGH};
        for (int b : bs) {
            SharedBlocks x = new SharedBlocks();
            Due.same("five of " + b, x.fill(0, 0, b, 5), 5);
            x.put(12, false, true);
            Due.same("their bytes", x.word(0), (b & 255L) * 0x0101010101L);
        }
    }

    private static void fillKind1() {
        Doc.says("Promise 4", "or bytes drawn from b (1: the bits 16 .. 23 of x, which is at first b and becomes"
                + " 1103515245 x + 12345, an int, before each), come behind a file's: how many it has.");
        for (int b : new int[] {0, 1, -1, 77, 65536, LOW, HIGH}) {
            SharedBlocks x = new SharedBlocks();
            x.fill(0, 0, 9, 1);
            Due.same("seven from " + b, x.fill(0, 1, b, 7), 8);
            x.put(12, false, true);
            long state = b;
            long due = 9;
            for (int i = 1; i < 8; i++) {
                state = (state * 1103515245L + 12345L) % 4294967296L;
                due |= (state >> 16 & 255) << 8 * i;
            }
            Due.same("their bytes", x.word(0), due);
            Due.same("behind them", x.fill(0, 1, b, 1), 9);
        }
        Due.same("one", new SharedBlocks().fill(63, 1, 5, 1), 1);
    }

    private static void fillNoFile() {
        Doc.says("Promise 4", "BAD: no such file,");
        for (int file : NO_FILES) {
            Stays.refused("file " + file, Starts::rich, x -> x.fill(file, 0, 1, 9), BAD);
        }
        Due.same("file 0", Starts.rich().fill(0, 0, 1, 9), 4115);
        Due.same("file 63", Starts.rich().fill(63, 0, 1, 9), 9);
    }

    private static void fillKind() {
        Doc.says("Promise 4", "kind is neither,");
        for (int kind : new int[] {-1, 2, 3, -2, LOW, HIGH}) {
            Stays.refused("kind " + kind, Starts::rich, x -> x.fill(0, kind, 1, 9), BAD);
        }
        Due.same("kind 0", Starts.rich().fill(0, 0, 1, 9), 4115);
        Due.same("kind 1", Starts.rich().fill(0, 1, 1, 9), 4115);
    }

    private static void fillCount() {
        Doc.says("Promise 4", "or n not 1 .. 65536;");
        for (int kind = 0; kind < 2; kind++) {
            int each = kind;
            for (int n : new int[] {0, -1, 65537, 65538, LOW, HIGH}) {
                Stays.refused("n " + n, Starts::rich, x -> x.fill(0, each, 1, n), BAD);
                Stays.refused("n " + n + " of a new one", SharedBlocks::new, x -> x.fill(0, each, 1, n), BAD);
            }
            Due.same("n 1", new SharedBlocks().fill(0, kind, 1, 1), 1);
            Due.same("n 65535", new SharedBlocks().fill(0, kind, 1, 65535), 65535);
            Due.same("n 65536", new SharedBlocks().fill(0, kind, 1, 65536), 65536);
        }
    }

    private static void fillFull() {
        Doc.says("Promise 4", "FULL.");
        for (int left = 9; left <= 11; left++) {
            int n = 65536 - left;
            for (int kind = 0; kind < 2; kind++) {
                int each = kind;
                if (left < 10) {
                    Stays.refused("10 where " + left + " are left", () -> Starts.withFiles(n),
                            x -> x.fill(9, each, 1, 10), FULL);
                } else {
                    Due.same("10 where " + left + " are left", Starts.withFiles(n).fill(9, kind, 1, 10), 20);
                }
            }
        }
        Stays.refused("one to full files", () -> Starts.withFiles(65536), x -> x.fill(0, 0, 1, 1), FULL);
        Stays.refused("65536 to one byte", Starts::rich, x -> x.fill(0, 0, 1, 65536), FULL);
        SharedBlocks x = new SharedBlocks();
        x.fill(1, 0, 1, 1);
        Due.same("65536 where 65535 are left", x.fill(0, 0, 1, 65536), FULL);
        Due.same("65535 where 65535 are left", x.fill(0, 0, 1, 65535), 65535);
    }

    private static void clearFile() {
        Doc.says("Promise 5", "A file has no bytes: how many it had.");
        for (int file = 0; file < 64; file += 7) {
            SharedBlocks x = new SharedBlocks();
            for (int other = 0; other < 64; other++) {
                x.fill(other, 0, other + 1, 8);
            }
            Due.same("clear " + file, x.clear(file), 8);
            Due.same("clear again", x.clear(file), 0);
            Due.same("none are left", x.about(file, 0), 0);
            Due.same("all others are there", x.put(12, false, true), 63 * 8);
            for (int i = 0; i < 63; i++) {
                Due.same("word " + i, x.word(i), 0x0101010101010101L * (i < file ? i + 1 : i + 2));
            }
            Due.same("one behind it", x.fill(file, 0, 99, 1), 1);
        }
        SharedBlocks x = new SharedBlocks();
        x.fill(0, 0, 1, 65536);
        Due.same("clear all", x.clear(0), 65536);
        Due.same("what went can come again", x.fill(1, 0, 1, 65536), 65536);
    }

    private static void clearNoFile() {
        Doc.says("Promise 5", "BAD: no such file.");
        for (int file : NO_FILES) {
            Stays.refused("file " + file, Starts::rich, x -> x.clear(file), BAD);
        }
        Due.same("file 0", Starts.rich().clear(0), 4106);
        Due.same("file 63", Starts.rich().clear(63), 0);
    }
}
