/** The edges of the row's bytes and of the order of answers: promises 12 to 14, and what the terms say of it. */
final class RowEdges {
    private static final int LOW = Integer.MIN_VALUE, HIGH = Integer.MAX_VALUE;
    private static final int BAD = SharedBlocks.BAD, NONE = SharedBlocks.NONE, FULL = SharedBlocks.FULL;

    private RowEdges() {
    }

    static void run() {
        calls512();
        laterCalls();
        answers();
        badBeforeNone();
        badBeforeFull();
        badBeforeSpoilt();
        changesNothing();
        wordBytes();
        wordBehind();
        wordNone();
        patchByte();
        patchLowest();
        patchNone();
        cutBytes();
        cutBad();
    }

    /** A row of the bytes 1 .. n. */
    private static SharedBlocks rowOf(int n) {
        SharedBlocks x = new SharedBlocks();
        Starts.feed(x, n);
        x.write(0, 1);
        x.put(12, false, true);
        return x;
    }

    private static void calls512() {
        Doc.says("What it is", "An object is used for at most 512 calls after it has been made;");
        for (int last = 0; last < 16; last++) {
            SharedBlocks old = new SharedBlocks();
            for (int i = 0; i < 250; i++) {
                old.feed(i, 8);
                old.write(0, 65);
            }
            int calls = 500 + someCalls(old);
            for (; calls < 511; calls++) {
                old.size();
            }
            SharedBlocks young = new SharedBlocks();
            someCalls(young);
            Due.same("the 512th call, " + last, lastCall(old, last), lastCall(young, last));
        }
        Recipe recipe = new Recipe().run(3, 9000).text("abcabcabcabd").drawn(1, 50);
        SharedBlocks x = new SharedBlocks();
        int calls = recipe.make(x, 0);
        x.fill(1, 0, 4, 5000);
        byte[] row = recipe.row(12, true, false);
        for (; calls < 500; calls++) {
            x.put(12 + calls % 3, true, calls % 2 == 0);
        }
        x.clear(1);
        x.put(12, true, false);
        for (int i = 0; i < 8; i++) {
            Due.same("word " + i + " of what is put last", x.word(i), Recipe.eight(row, 8 * i, 8));
        }
    }

    private static void laterCalls() {
        Doc.says("What it is", "what later calls answer is free.");
        SharedBlocks x = new SharedBlocks();
        for (int i = 0; i < 3000; i++) {
            lastCall(x, i % 16);
            x.feed(i, 8);
        }
        Due.holds("all of them end, and none throws", true);
    }

    private static int someCalls(SharedBlocks x) {
        x.feed(0x0a090807060504L, 7);
        x.write(0, 1);
        x.fill(1, 0, 97, 40);
        x.put(12, true, true);
        x.read(1, 1, 5);
        x.feed(1, 1);
        return 6;
    }

    private static long lastCall(SharedBlocks x, int which) {
        switch (which) {
            case 0:
                return x.feed(1, 1);
            case 1:
                return x.write(0, 7);
            case 2:
                return x.fill(1, 1, 5, 8);
            case 3:
                return x.clear(0);
            case 4:
                return x.put(13, true, true);
            case 5:
                return x.about(1, 2);
            case 6:
                return x.number(1, 0);
            case 7:
                return x.fragments();
            case 8:
                return x.fragment(0, 0);
            case 9:
                return x.size();
            case 10:
                return x.word(0) & 255;
            case 11:
                return x.patch(1, 3);
            case 12:
                return x.cut(1);
            case 13:
                return x.read(1, 38, 5);
            case 14:
                return x.out(0);
            default:
                return x.taken();
        }
    }

    private static void answers() {
        Doc.says("Terms", "Answers below 0: BAD: a number that is not as said; NONE: it is not there; FULL: something"
                + " would be more than may be.");
        Due.same("BAD", SharedBlocks.BAD, -1);
        Due.same("NONE", SharedBlocks.NONE, -2);
        Due.same("FULL", SharedBlocks.FULL, -3);
        Due.same("SPOILT", SharedBlocks.SPOILT, -4);
        Due.same("a number that is not as said", new SharedBlocks().feed(1, 9), -1);
        Due.same("it is not there", new SharedBlocks().patch(0, 1), -2);
        Due.same("more than may be", Starts.withTape(1024).feed(1, 1), -3);
        Due.same("spoilt", Starts.spoilt().read(0, 4096, 1), -4);
    }

    private static void badBeforeNone() {
        Doc.says("Terms", "In this order;");
        Stays.refused("a block that is not there of no file", Starts::rich, x -> x.number(64, -1), BAD);
        Stays.refused("a block that is not there of no file", Starts::rich, x -> x.number(-1, 99), BAD);
        Stays.refused("no fragment, and what is neither", Starts::rich, x -> x.fragment(-1, 2), BAD);
        Stays.refused("no fragment, and what is neither", Starts::rich, x -> x.fragment(1, -1), BAD);
        Stays.refused("no fragment", Starts::rich, x -> x.fragment(-1, 1), NONE);
        Stays.refused("no block", Starts::rich, x -> x.number(0, -1), NONE);
    }

    private static void badBeforeFull() {
        Doc.says("Terms", "In this order;");
        for (int n : new int[] {0, 9, HIGH}) {
            Stays.refused(n + " to a full tape", () -> Starts.withTape(1024), x -> x.feed(0, n), BAD);
        }
        Stays.refused("8 to a full tape", () -> Starts.withTape(1024), x -> x.feed(0, 8), FULL);
        int[][] writes = {{-1, 1}, {64, 1}, {0, 0}, {0, 65}, {0, HIGH}, {64, 65}};
        for (int[] write : writes) {
            Stays.refusedWrite("write " + write[0] + " " + write[1] + " to full files", () -> Starts.withFiles(65536),
                    write[0], write[1], BAD);
        }
        Stays.refusedWrite("write to full files", () -> Starts.withFiles(65536), 63, 64, FULL);
        int[][] fills = {{-1, 0, 1}, {64, 1, 1}, {0, 2, 1}, {0, -1, 1}, {0, 0, 0}, {0, 0, 65537}, {0, 1, HIGH}};
        for (int[] fill : fills) {
            Stays.refused("fill " + fill[0] + " " + fill[1] + " " + fill[2] + " to full files",
                    () -> Starts.withFiles(65536), x -> x.fill(fill[0], fill[1], 1, fill[2]), BAD);
        }
        Stays.refused("fill full files", () -> Starts.withFiles(65536), x -> x.fill(0, 1, 1, 65536), FULL);
    }

    private static void badBeforeSpoilt() {
        Doc.says("Terms", "In this order;");
        int[][] reads = {{-1, 4096, 1}, {64, 4096, 1}, {0, -1, 4096}, {0, 4096, -1}, {0, 4096, 4097}};
        for (int[] read : reads) {
            Due.same("read " + read[0] + " " + read[1] + " " + read[2], Starts.spoilt().read(read[0], read[1], read[2]),
                    BAD);
        }
        Due.same("read what is spoilt", Starts.spoilt().read(0, 4096, 1), SharedBlocks.SPOILT);
    }

    private static void changesNothing() {
        Doc.says("Terms", "what is refused changes nothing but the tape, and taken() by read().");
        Stays.refusedWrite("a write", Starts::rich, 64, 1, BAD);
        Stays.refusedWrite("a full write", () -> Starts.withFiles(65535), 0, 1, FULL);
        Stays.refusedRead("a read", Starts::rich, 64, 0, 1, BAD);
        Stays.refused("a feed", Starts::rich, x -> x.feed(1, 9), BAD);
        Stays.refused("a fill", Starts::rich, x -> x.fill(0, 0, 1, 65536), FULL);
        Stays.refused("a patch", Starts::rich, x -> x.patch(-1, 1), NONE);
        Stays.refused("a cut", Starts::rich, x -> x.cut(-1), BAD);
        Stays.refused("a put", Starts::rich, x -> x.put(0, true, true), BAD);
    }

    private static void wordBytes() {
        Doc.says("Promise 12", "Eight bytes of the row from 8 i on, the first one lowest,");
        SharedBlocks x = rowOf(200);
        for (int i = 0; i < 25; i++) {
            long due = 0;
            for (int k = 7; k >= 0; k--) {
                due = due << 8 | 8 * i + k + 1;
            }
            Due.same("word " + i, x.word(i), due);
        }
        x = new SharedBlocks();
        x.fill(0, 1, 3, 65536);
        x.put(16, false, false);
        x.patch(65535, 255);
        Due.same("the last word of the longest row", x.word(8191) >>> 56, 255);
        Due.same("none behind it", x.word(8192), 0);
    }

    private static void wordBehind() {
        Doc.says("Promise 12", "0 behind its end;");
        for (int n = 8; n <= 24; n++) {
            SharedBlocks x = rowOf(n);
            x.patch(n - 1, 255);
            int last = (n - 1) / 8;
            Due.same("the last byte of " + n, x.word(last) >>> (n - 1) % 8 * 8, 255);
            Due.same("behind the end of " + n, x.word(last + 1), 0);
            // What a longer row had there is not seen.
            x.cut(n - 1);
            Due.same("behind a cut of " + n, (n - 1) % 8 == 0 ? x.word(last) : x.word(last) >>> (n - 1) % 8 * 8, 0);
            x.clear(0);
            x.fill(0, 0, 7, 5);
            x.put(12, false, true);
            Due.same("behind a shorter row", x.word(0), 0x0707070707L);
            Due.same("no word", x.word(1), 0);
        }
    }

    private static void wordNone() {
        Doc.says("Promise 12", "0 when there are none.");
        int[] none = {-1, 3, 4, -2, LOW, HIGH, 1 << 29, (1 << 29) + 1, -(1 << 29), 16383, 16384, HIGH / 8,
            HIGH / 8 + 1};
        for (int i : none) {
            Due.same("word " + i, rowOf(24).word(i), 0);
            Due.same("word " + i + " of a new object", new SharedBlocks().word(i), 0);
        }
        Due.holds("word 2", rowOf(24).word(2) != 0);
        Due.holds("word 0", rowOf(24).word(0) != 0);
        Due.same("word 0 of none", new SharedBlocks().word(0), 0);
    }

    private static void patchByte() {
        Doc.says("Promise 13", "A byte of the row becomes b");
        SharedBlocks x = rowOf(20);
        for (int i = 0; i < 20; i++) {
            Due.same("what byte " + i + " was", x.patch(i, 100 + i), i + 1);
            Due.same("what it is then", x.patch(i, 200 + i), 100 + i);
        }
        for (int i = 0; i < 20; i++) {
            Due.same("byte " + i, x.word(i / 8) >>> i % 8 * 8 & 255, 200 + i);
        }
        Due.same("the size", x.size(), 20);
        Due.same("the file is read as it is now", x.read(0, 0, 8), 8);
        Due.same("its bytes", x.out(0), x.word(0));
        Due.same("a file is not changed by it", x.put(12, false, true), 20);
        Due.same("its bytes", x.word(0), 0x0807060504030201L);
    }

    private static void patchLowest() {
        Doc.says("Promise 13", "(its lowest eight bits): what it was.");
        for (int b : new int[] {0, 1, 127, 128, 255, 256, 257, 511, -1, -128, -129, -256, LOW, HIGH}) {
            SharedBlocks x = rowOf(3);
            Due.same("before " + b, x.patch(1, b), 2);
            Due.same("after " + b, x.patch(1, 0), b & 255);
            x.patch(1, b);
            Due.same("the row with " + b, x.word(0), 0x030001L | (b & 255) << 8);
        }
    }

    private static void patchNone() {
        Doc.says("Promise 13", "NONE: there is none.");
        int size = Starts.rich().size();
        for (int i : new int[] {-1, size, size + 1, -size, LOW, HIGH, 131071, 131072}) {
            Stays.refused("patch " + i, Starts::rich, x -> x.patch(i, 99), NONE);
        }
        Stays.refused("patch behind a cut", Starts::spoilt, x -> x.patch(size - 1, 99), NONE);
        Stays.refused("patch of a new object", SharedBlocks::new, x -> x.patch(0, 99), NONE);
        Due.holds("the first byte", Starts.rich().patch(0, 99) >= 0);
        Due.holds("the last byte", Starts.rich().patch(size - 1, 99) >= 0);
        Due.holds("the last byte of a cut row", Starts.spoilt().patch(size - 2, 99) >= 0);
    }

    private static void cutBytes() {
        Doc.says("Promise 14", "The row keeps its first n bytes: how many went.");
        for (int n = 0; n <= 20; n++) {
            SharedBlocks x = rowOf(20);
            Due.same("cut to " + n, x.cut(n), 20 - n);
            Due.same("size", x.size(), n);
            Due.same("cut again", x.cut(n), 0);
            Due.same("the last byte", n == 0 ? 0 : x.patch(n - 1, 0), n);
            Due.same("none behind it", x.patch(n, 0), NONE);
            Due.same("what was put stays", x.fragment(0, 1), 16777216 + 20);
            Due.same("the files' bytes stay", x.put(12, false, true), 20);
        }
    }

    private static void cutBad() {
        Doc.says("Promise 14", "BAD: n is not 0 .. its bytes.");
        int size = Starts.rich().size();
        for (int n : new int[] {-1, size + 1, size + 2, -size, LOW, HIGH, 131072}) {
            Stays.refused("cut " + n, Starts::rich, x -> x.cut(n), BAD);
        }
        Stays.refused("cut to what it was before a cut", Starts::spoilt, x -> x.cut(size), BAD);
        Stays.refused("cut a new object", SharedBlocks::new, x -> x.cut(1), BAD);
        Due.same("cut none", Starts.rich().cut(size), 0);
        Due.same("cut one", Starts.rich().cut(size - 1), 1);
        Due.same("cut all", Starts.rich().cut(0), size);
        Due.same("cut a new object to nothing", new SharedBlocks().cut(0), 0);
    }
}
