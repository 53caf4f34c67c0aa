import java.nio.charset.StandardCharsets;
import java.util.Arrays;

/** What a packed row is: rows without a fault at the edges of each sentence, and one step further. */
final class FormatEdges {
    private static final String TERMS = "Terms";
    private static final int[] NONE_AT_ALL = {0};

    private FormatEdges() {
    }

    static void run() {
        beginning();
        firstBits();
        lastBits();
        checkOrder();
        checkSums();
        bits();
        numbersAndCodes();
        sorts();
        stored();
        fixedSymbols();
        fixedDistances();
        headOfMade();
        sizesOrder();
        sizesLeft();
        lengthsOneByOne();
        repeatedLength();
        zerosBy17();
        zerosBy18();
        numbersOfLengths();
        codesByNumber();
        codesByLength();
        noCode();
        byteSymbols();
        lengthSymbols();
        longestLength();
        distanceSymbols();
        copies();
    }

    private static byte[] hex(String text) {
        byte[] bytes = new byte[text.length() / 2];
        for (int i = 0; i < bytes.length; i++) {
            bytes[i] = (byte) Integer.parseInt(text.substring(2 * i, 2 * i + 2), 16);
        }
        return bytes;
    }

    private static byte[] fixedRow(String text) {
        return Bits.packed().part(true, 1).fixedText(text).fixed(256).check(Recipe.bytesOf(text));
    }

    private static void beginning() {
        Doc.says(TERMS, "A PACKED ROW of bytes: the bytes 120 and 156");
        for (int n : new int[] {30, 4095, 4096, 4097, 65536}) {
            byte[] row = new Recipe().run(3, n).row(16, true, false);
            Due.same("the first byte of " + n, row[0] & 255, 120);
            Due.same("the second byte of " + n, row[1] & 255, 156);
        }
        Patched.makes("120 and 156", fixedRow("abcdef"), "abcdef");
        for (int[] step : new int[][] {{0, -1}, {0, 1}, {1, -1}, {1, 1}}) {
            byte[] row = fixedRow("abcdef");
            row[step[0]] += (byte) step[1];
            Patched.faulty(row[0] + " and " + (row[1] & 255), row);
        }
    }

    private static void firstBits() {
        Doc.says(TERMS, "PARTS, of which just the last one has a first bit 1 (all others 0)");
        byte[] made = Recipe.bytesOf("abcdef");
        Patched.makes("one part", fixedRow("abcdef"), "abcdef");
        for (int parts = 2; parts <= 4; parts++) {
            for (int last = 0; last <= parts; last++) {
                Bits bits = Bits.packed();
                for (int i = 0; i < parts; i++) {
                    bits.part(i == last, 1).fixedText(i == 0 ? "abcdef" : "").fixed(256);
                }
                if (last == parts - 1) {
                    Patched.makes("the last of " + parts, bits.check(made), made);
                } else {
                    Patched.faulty("part " + last + " of " + parts + " is said to be the last", bits.check(made));
                }
            }
        }
        for (int n = 1; n <= 3; n++) {
            Parsed row = Parsed.of(new Recipe().run(1, 4096 * n));
            for (int i = 0; i < n; i++) {
                Due.holds("part " + i + " of " + n, row.parts.get(i).last == (i == n - 1));
            }
        }
    }

    private static void lastBits() {
        Doc.says(TERMS, "bits up to the end of a byte (whatever they are; 0 when a row is packed)");
        for (int high = 0; high < 8; high++) {
            StringBuilder made = new StringBuilder("abcdef");
            Bits zeros = Bits.packed().part(true, 1).fixedText("abcdef");
            Bits ones = Bits.packed().part(true, 1).fixedText("abcdef");
            Bits mixed = Bits.packed().part(true, 1).fixedText("abcdef");
            for (int i = 0; i < high; i++) {
                // Each of these takes nine bits, and so the part ends one bit later in its byte.
                made.append((char) 144);
                zeros.fixed(144);
                ones.fixed(144);
                mixed.fixed(144);
            }
            byte[] all = Recipe.bytesOf(made.toString());
            Patched.makes(high + ": zeros", zeros.fixed(256).endByte(0).check(all), all);
            Patched.makes(high + ": ones", ones.fixed(256).endByte(1).check(all), all);
            Patched.makes(high + ": one and zeros", mixed.fixed(256).lastBits(1).check(all), all);
            byte[] more = Bits.packed().part(true, 1).fixedText(made.toString()).fixed(256).endByte().number(0, 8)
                    .check(all);
            Patched.faulty(high + ": a byte more", more);
        }
        boolean[] seen = new boolean[8];
        for (int n = 0; n < 8; n++) {
            Recipe recipe = new Recipe().run(1, 60);
            for (int i = 0; i < n; i++) {
                recipe.run(200 + 5 * i, 1);
            }
            Parsed row = Parsed.of(recipe);
            Due.same("bits behind the last part with " + n + " more", row.lastBits, 0);
            seen[row.lastBitCount] = true;
        }
        for (int n = 0; n < 8; n++) {
            Due.holds("packed rows with " + n + " bits behind the last part were seen", seen[n]);
        }
    }

    private static void checkOrder() {
        Doc.says(TERMS, "then the CHECK in four bytes, the highest first: 65536 b + a");
        // Of "ab" a is 1 + 97 + 98 = 196, and b is 98 + 196 = 294 = 256 + 38.
        int[] good = {1, 38, 0, 196};
        for (int turn = 0; turn < 4; turn++) {
            Bits bits = Bits.packed().part(true, 1).fixedText("ab").fixed(256).endByte();
            for (int i = 0; i < 4; i++) {
                bits.number(good[(i + turn) % 4], 8);
            }
            if (turn == 0) {
                Patched.makes("the check of ab", bits.bytes(), "ab");
            } else {
                Patched.faulty("the check turned by " + turn, bits.bytes());
            }
        }
        Patched.faulty("the lowest first", Bits.packed().part(true, 1).fixedText("ab").fixed(256).endByte()
                .number(0x012600c4, 32).bytes());
        byte[] row = new Recipe().run(97, 12).row(12, true, true);
        // Of twelve a's a is 1 + 12 * 97 = 1165 and b is 12 + 97 * 78 = 7578.
        Due.same("the check when packed", new Parsed(row).check, 65536 * 7578 + 1165);
    }

    private static void checkSums() {
        Doc.says(TERMS, "a being 1 and all bytes that are packed, b the sum of all values that a has behind each of"
                + " them, both modulo 65521.");
        for (int step = -1; step <= 1; step++) {
            // 1 + 256 * 255 = 65281, so that a is 65520, 65521, which is 0, and 65522, which is 1.
            Recipe a = new Recipe().run(255, 256).run(240 + step, 1);
            sumIs("a " + step, a, 0xffff, step < 0 ? 65520 : step);
            // Behind 359 bytes of 1 b is 359 + 359 * 360 / 2 = 64979 and a is 360; then comes 360 + the last byte.
            Recipe b = new Recipe().run(1, 359).run(182 + step, 1);
            sumIs("b " + step, b, 0xffff0000, step < 0 ? 65520 << 16 : step << 16);
        }
        sumIs("large sums", new Recipe().run(255, 65536), -1, Bits.adler(new Recipe().run(255, 65536).all()));
    }

    private static void sumIs(String name, Recipe recipe, int mask, int due) {
        Parsed row = Parsed.of(recipe);
        Due.same(name + ": when packed", row.check & mask, due);
        SharedBlocks x = new SharedBlocks();
        recipe.make(x, 0);
        x.put(16, true, false);
        Due.same(name + ": read", x.read(0, 0, 9), 9);
    }

    private static void bits() {
        Doc.says(TERMS, "BITS of a row are read from its first byte on, each byte from its lowest bit.");
        // What another program packed: the first byte 4b of the part is 01001011, and so 1, 01, and 10010 of a's code.
        Patched.makes("two bytes", hex("789c4b4c0200012600c4"), "ab");
        Patched.makes("a match", hex("789c4b4c4400001d9a048d"), "aaaaaaaaaaaa");
        Patched.makes("a word again", hex("789ccb48cdc9c957c84027150170d508d2"), "hello hello hello hello!");
        byte[] turned = hex("789c4b4c0200012600c4");
        for (int i = 2; i < 6; i++) {
            turned[i] = (byte) (Integer.reverse(turned[i]) >>> 24);
        }
        Patched.faulty("bytes from their highest bit", turned);
        Due.holds("when packed", Arrays.equals(new Recipe().run(97, 12).row(12, true, true),
                hex("789c4b4402001d9a048d")));
        Bits bits = Bits.packed().part(true, 1).fixedText("abcdefgh").fixed(267).bit(1).fixedDistance(5).bit(1);
        Due.holds("a match of 16 when packed", Arrays.equals(
                new Recipe().text("abcdefgh".repeat(3)).row(12, true, true),
                bits.fixed(256).check(Recipe.bytesOf("abcdefgh".repeat(3)))));
    }

    private static void numbersAndCodes() {
        Doc.says(TERMS, "A NUMBER of k bits has its lowest bit first; a CODE its highest bit first.");
        Bits bits = Bits.packed().part(true, 1).fixedText("xyz");
        // 267 has one bit more, which is 1: 15 + 1; the distance 3 has the code 2.
        bits.code("0001011").code("1").code("00010").fixed(256);
        Patched.makes("a code and a number of one bit", bits.check(Recipe.bytesOf("xyz" + "xyzxyzxyzxyzxyzx")),
                "xyz" + "xyzxyzxyzxyzxyzx");
        // 269 has two bits more, and they are 0 and 1, which is 2: 19 + 2.
        bits = Bits.packed().part(true, 1).fixedText("xyz").code("0001101").code("01").code("00010").fixed(256);
        Patched.makes("a number of two bits", bits.check(Recipe.bytesOf("xyz".repeat(8))), "xyz".repeat(8));
        Due.holds("packed so", Parsed.of(new Recipe().text("xyz".repeat(8))).text().equals("x y z 21<3"));
    }

    private static void sorts() {
        Doc.says(TERMS, "Behind the first bit of a part comes a number of 2 bits, its SORT:");
        byte[] data = Recipe.bytesOf("abba");
        int[] ab = Made.lengths(257, 'a', 1, 'b', 2, 256, 2);
        for (int sort = 0; sort < 4; sort++) {
            for (int is = 0; is < 3; is++) {
                Bits bits = Bits.packed();
                if (is == 0) {
                    bits.stored(true, data);
                } else if (is == 1) {
                    bits.part(true, 1).fixedText("abba").fixed(256);
                } else {
                    new Made(bits, true, ab, NONE_AT_ALL).text("abba").end();
                }
                byte[] row = bits.check(data);
                row[2] = (byte) (row[2] & 0xf9 | sort << 1);
                if (sort == is) {
                    Patched.makes("sort " + sort, row, "abba");
                } else {
                    Patched.faulty("sort " + is + " by the number " + sort, row);
                }
            }
        }
    }

    private static void stored() {
        Doc.says(TERMS, "STORED (0): bits up to the end of the byte (whatever they are), a number n of 16 bits,"
                + " 65535 - n in 16 bits, n bytes.");
        for (int n : new int[] {0, 1, 2, 255, 256, 257, 400}) {
            byte[] data = Arrays.copyOf(new Recipe().drawn(n, n).text("x").all(), n);
            // A fixed part with one byte is behind it, so that there is something to read.
            byte[] made = Arrays.copyOf(data, n + 1);
            made[n] = 'x';
            Patched.makes("stored " + n, Bits.packed().stored(false, data).part(true, 1).fixed('x').fixed(256)
                    .check(made), made);
        }
        for (int shift = 0; shift < 8; shift++) {
            for (int bit = 0; bit < 2; bit++) {
                StringBuilder lead = new StringBuilder("abc");
                for (int i = 0; i < shift; i++) {
                    lead.append((char) 200);
                }
                byte[] made = Recipe.bytesOf(lead + "hello");
                Bits bits = Bits.packed().part(false, 1).fixedText(lead.toString()).fixed(256);
                bits.part(true, 0).endByte(bit).number(5, 16).number(65530, 16);
                for (char c : "hello".toCharArray()) {
                    bits.number(c, 8);
                }
                Patched.makes("bits " + bit + " up to the byte, behind " + shift, bits.check(made), made);
            }
        }
        Patched.makes("stored last and empty", Bits.packed().part(false, 1).fixedText("abc").fixed(256)
                .stored(true, new byte[0]).check(Recipe.bytesOf("abc")), "abc");
    }

    private static void fixedSymbols() {
        Doc.says(TERMS, "FIXED (1): symbols; their codes have these lengths: symbols 0 .. 143 8 bits, 144 .. 255 9,"
                + " 256 .. 279 7, 280 .. 287 8");
        byte[] all = new byte[256];
        Bits bits = Bits.packed().part(true, 1);
        for (int i = 0; i < 256; i++) {
            all[i] = (byte) i;
            bits.fixed(i);
        }
        Patched.makes("all bytes", bits.fixed(256).check(all), all);
        // The first and the last code of each length, by their bits.
        String[] codes = {"00110000", "10111111", "110010000", "111111111"};
        int[] symbols = {0, 143, 144, 255};
        for (int i = 0; i < 4; i++) {
            byte[] made = {(byte) symbols[i], (byte) symbols[i]};
            Patched.makes("symbol " + symbols[i], Bits.packed().part(true, 1).code(codes[i]).code(codes[i])
                    .code("0000000").check(made), made);
        }
        byte[] made = new byte[4 + 99 + 115];
        Patched.makes("symbols 279 and 280", Bits.padded().part(true, 1).code("00110000".repeat(4))
                .code("0010111").number(0, 4).code("00000").code("11000000").number(0, 4).code("00000")
                .code("0000000").check(made), made);
        byte[] longest = new byte[1 + 258];
        Patched.makes("symbol 285", Bits.padded().part(true, 1).code("00110000").code("11000101").code("00000")
                .code("0000000").check(longest), longest);
    }

    private static void fixedDistances() {
        Doc.says(TERMS, "distances 0 .. 31 5 bits.");
        for (int d = 0; d < 18; d++) {
            int distance = Model.distanceBaseAndBits(d)[0];
            byte[] made = Arrays.copyOf(new Recipe().drawn(d, distance).all(), distance + 3);
            for (int i = 0; i < 3; i++) {
                made[distance + i] = made[i];
            }
            Bits bits = Bits.packed().stored(false, Arrays.copyOf(made, distance)).part(true, 1).fixed(257);
            for (int i = 4; i >= 0; i--) {
                bits.bit(d >> i);
            }
            bits.number(0, Model.distanceBaseAndBits(d)[1]).fixed(256);
            Patched.makes("distance " + d, bits.check(made), made);
        }
        for (int d = 30; d <= 31; d++) {
            Patched.faulty("five bits, but not for " + d, Bits.packed().part(true, 1).fixedText("abc").fixed(257)
                    .fixedDistance(d).fixed(256).check(Recipe.bytesOf("abcabc")));
        }
    }

    private static void headOfMade() {
        Doc.says(TERMS, "MADE (2): h, a number of 5 bits, d of 5, c of 4;");
        for (int h = 0; h <= 29; h++) {
            for (int d = 0; d <= 29; d += h == 0 || h == 29 ? 1 : 29) {
                int[] symbols = Made.lengths(257 + h, 'a', 1, 'b', 2, 256 + h, 2, 256, 2);
                symbols['b'] = h == 0 ? 2 : 3;
                symbols[256] = h == 0 ? 2 : 3;
                int[] distances = Made.lengths(d + 1, d, 1);
                Made part = new Made(Bits.packed(), true, symbols, distances).text("abba");
                Patched.makes("h " + h + ", d " + d, part.end().check(Recipe.bytesOf("abba")), "abba");
            }
        }
    }

    /**
     * A full code that uses the length that c adds to those before, and beside it just some of those: a length, how
     * many symbols have it, the next length, and so on.
     */
    private static int[] codeUsing(int c) {
        int[][] rows = {null, {8, 256}, {7, 128}, {8, 255, 9, 2}, {6, 64}, {8, 255, 9, 1, 10, 2}, {5, 32},
            {5, 31, 6, 1, 7, 1, 8, 1, 9, 1, 10, 1, 11, 2}, {4, 16},
            {4, 15, 5, 1, 6, 1, 7, 1, 8, 1, 9, 1, 10, 1, 11, 1, 12, 2}, {3, 8},
            {3, 7, 4, 1, 5, 1, 6, 1, 7, 1, 8, 1, 9, 1, 10, 1, 11, 1, 12, 1, 13, 2}, {2, 4},
            {2, 3, 3, 1, 4, 1, 5, 1, 6, 1, 7, 1, 8, 1, 9, 1, 10, 1, 11, 1, 12, 1, 13, 1, 14, 2}, {1, 2},
            {1, 1, 2, 1, 3, 1, 4, 1, 5, 1, 6, 1, 7, 1, 8, 1, 9, 1, 10, 1, 11, 1, 12, 1, 13, 1, 14, 1, 15, 2}};
        return rows[c];
    }

    /** The lengths of that code, for symbols up to 256, or up to a later one if there are so many. */
    private static int[] symbolsUsing(int c) {
        int[] code = codeUsing(c);
        int count = 0;
        for (int i = 0; i < code.length; i += 2) {
            count += code[i + 1];
        }
        int[] symbols = new int[Math.max(257, count)];
        int at = symbols.length - count;
        for (int i = 0; i < code.length; i += 2) {
            Arrays.fill(symbols, at, at + code[i + 1], code[i]);
            at += code[i + 1];
        }
        return symbols;
    }

    /** What is packed by that code: the last three bytes that have one. */
    private static byte[] madeUsing(int c) {
        byte[] made = {(byte) 255, (byte) 254, (byte) 253, (byte) 255};
        return c == 14 ? new byte[] {(byte) 255, (byte) 255} : made;
    }

    /** A made part whose lengths are told by just the first c + 4 of the 19, of which so many are written. */
    private static byte[] withSizes(int c, int written) {
        int[] symbols = symbolsUsing(c);
        int[] sizes = balanced(symbols);
        Bits bits = Bits.packed().part(true, 2).number(symbols.length - 257, 5).number(0, 5).number(written - 4, 4);
        for (int i = 0; i < written; i++) {
            bits.number(sizes[Made.ORDER[i]], 3);
        }
        String[] codes = Model.codes(sizes);
        for (int length : symbols) {
            bits.code(codes[length]);
        }
        bits.code(codes[0]);
        String[] own = Model.codes(symbols);
        for (byte b : madeUsing(c)) {
            bits.code(own[b & 255]);
        }
        return bits.code(own[256]).check(madeUsing(c));
    }

    /** Lengths of a full code for 0 and those of the 19 that come among some lengths. */
    private static int[] balanced(int[] told) {
        boolean[] used = new boolean[19];
        used[0] = true;
        for (int each : told) {
            used[each] = true;
        }
        int n = 0;
        for (boolean each : used) {
            n += each ? 1 : 0;
        }
        int k = 1;
        while (1 << k < n) {
            k++;
        }
        int shorter = (1 << k) - n;
        int[] lengths = new int[used.length];
        for (int s = 0; s < used.length; s++) {
            if (used[s]) {
                lengths[s] = shorter > 0 ? k - 1 : k;
                shorter--;
            }
        }
        return lengths;
    }

    private static void sizesOrder() {
        Doc.says(TERMS, "c + 4 numbers of 3 bits, the lengths of codes for 16 17 18 0 8 7 9 6 10 5 11 4 12 3 13 2 14 1"
                + " 15, in this order");
        for (int c = 1; c <= 15; c++) {
            Patched.makes("c " + c + ", up to " + Made.ORDER[c + 3], withSizes(c, c + 4), madeUsing(c));
        }
        // With c 0 there are 16, 17, 18 and 0 alone, and so no length but 0: then 256 has no code.
        Bits bits = Bits.packed().part(true, 2).number(0, 5).number(0, 5).number(0, 4);
        bits.number(0, 3).number(0, 3).number(1, 3).number(1, 3);
        bits.code("1").number(127, 7).code("1").number(258 - 138 - 11, 7);
        Patched.faulty("c 0", bits.number(0, 40).check(new byte[1]));
    }

    private static void sizesLeft() {
        Doc.says(TERMS, "(those that are left have 0)");
        for (int c = 1; c < 15; c++) {
            Patched.makes("all the others are told as 0 behind c " + c, withSizes(c, 19), madeUsing(c));
            Patched.makes("one more is told as 0 behind c " + c, withSizes(c, c + 5), madeUsing(c));
        }
        for (int c = 1; c <= 15; c++) {
            Patched.faulty("one too few with c " + c, withSizes(c, c + 3));
        }
    }

    private static void lengthsOneByOne() {
        Doc.says(TERMS, "then, by these codes, h + 257 lengths of the codes for symbols and d + 1 for distances, one"
                + " row: 0 .. 15 is a length;");
        int[] all = new int[257];
        StringBuilder made = new StringBuilder();
        for (int length = 1; length <= 15; length++) {
            all['a' + length - 1] = length;
            made.append((char) ('a' + length - 1));
        }
        all[256] = 15;
        Patched.makes("codes of all lengths", new Made(Bits.packed(), true, all, NONE_AT_ALL).text(made.toString())
                .end().check(Recipe.bytesOf(made.toString())), made.toString());
        int[] symbols = Made.lengths(258, 'a', 1, 256, 2, 257, 2);
        int[] distances = new int[16];
        for (int d = 0; d < 15; d++) {
            distances[d] = d + 1;
        }
        distances[15] = 15;
        byte[] before = new Recipe().drawn(15, 260).all();
        for (int d = 0; d < 16; d++) {
            int[] base = Model.distanceBaseAndBits(d);
            byte[] copied = Arrays.copyOf(before, 263);
            for (int i = 0; i < 3; i++) {
                copied[260 + i] = copied[260 + i - base[0]];
            }
            Made part = new Made(Bits.packed().stored(false, before), true, symbols, distances);
            Patched.makes("distance " + d + " by a code of its own length",
                    part.symbol(257).distance(d, 0, base[1]).end().check(copied), copied);
        }
    }

    /** From a on so many symbols have one length, told once and then by 16, once or twice; others make a full code. */
    private static byte[] repeated(int times, int length, int more, boolean twice) {
        Bits bits = Made.zeros(Made.head(Bits.packed(), true, 0, 0), 97);
        Made.told(bits, length, 16).number(more, 2);
        if (twice) {
            Made.told(bits, 16).number(more, 2);
        }
        int[] lengths = new int[257];
        Arrays.fill(lengths, 97, 97 + times, length);
        return rest(bits, lengths, 97 + times);
    }

    /** Tells what is missing to a full code by the symbols from a place on, one of a length, and 256 last. */
    private static byte[] rest(Bits bits, int[] lengths, int from) {
        int left = 1 << 15;
        for (int length : lengths) {
            left -= length > 0 ? 1 << 15 - length : 0;
        }
        int at = from;
        while (Integer.bitCount(left) > 1) {
            int highest = Integer.highestOneBit(left);
            lengths[at++] = 15 - Integer.numberOfTrailingZeros(highest);
            left -= highest;
        }
        lengths[256] = 15 - Integer.numberOfTrailingZeros(left);
        for (int i = from; i < at; i++) {
            Made.told(bits, lengths[i]);
        }
        Made.zeros(bits, 256 - at);
        Made.told(bits, lengths[256], 0);
        String[] codes = Model.codes(lengths);
        StringBuilder made = new StringBuilder();
        for (int s = 0; s < 256; s++) {
            if (codes[s] != null) {
                bits.code(codes[s]);
                made.append((char) s);
            }
        }
        return bits.code(codes[256]).check(Recipe.bytesOf(made.toString()));
    }

    private static String letters(byte[] row) {
        try {
            return new String(Model.unpack(row, 4096), StandardCharsets.ISO_8859_1);
        } catch (Model.Fault fault) {
            return fault.getMessage();
        }
    }

    private static void repeatedLength() {
        Doc.says(TERMS, "16 the one before 3 times more, and as often again as a number of 2 bits tells;");
        for (int more = 0; more < 4; more++) {
            byte[] row = repeated(1 + 3 + more, 4, more, false);
            Due.holds("letters by 16 and " + more, letters(row).startsWith("abcdefg".substring(0, 4 + more)));
            Patched.makes("16 and " + more, row, letters(row));
            row = repeated(1 + 6 + 2 * more, 4, more, true);
            Due.holds("letters by 16 twice", letters(row).startsWith("abcdefghijklm".substring(0, 7 + 2 * more)));
            Patched.makes("16 twice and " + more, row, letters(row));
        }
        // A 16 behind a 0, and behind an 18: the one before is 0.
        for (int s = 17; s <= 18; s++) {
            int told = s == 17 ? 3 : 11;
            Bits bits = Made.told(Made.head(Bits.packed(), true, 0, 0), s).number(0, s == 17 ? 3 : 7);
            Made.told(bits, 16).number(1, 2);
            Made.zeros(bits, 97 - told - 4);
            int[] lengths = Made.lengths(257, 'a', 1);
            Made.told(bits, 1);
            Patched.makes("16 behind " + s, rest(bits, lengths, 98), "a");
        }
        // Over the border: the distances 0 .. 3 have the length of 256.
        for (int more = 0; more < 2; more++) {
            Bits bits = Made.zeros(Made.head(Bits.packed(), true, 0, 2 + more), 97);
            Made.told(bits, 2, 2, 2);
            Made.zeros(bits, 256 - 100);
            Made.told(bits, 2, 16).number(more, 2);
            byte[] row = bits.code("00").code("01").code("10").code("11").check(Recipe.bytesOf("abc"));
            if (more == 1) {
                Patched.makes("16 over the border", row, "abc");
            } else {
                Patched.faulty("16 over the border, one distance too few for a code", row);
            }
        }
    }

    private static void zerosBy17() {
        Doc.says(TERMS, "17 the length 0, 3 times and as often more as 3 bits tell;");
        for (int more = 0; more < 8; more++) {
            Bits bits = Made.zeros(Made.head(Bits.packed(), true, 0, 0), 97 - 3 - more);
            Made.told(bits, 17).number(more, 3);
            Made.told(bits, 1);
            Patched.makes("17 and " + more, rest(bits, Made.lengths(257, 'a', 1), 98), "a");
        }
    }

    private static void zerosBy18() {
        Doc.says(TERMS, "18 likewise 11 times and 7 bits.");
        for (int more = 0; more < 128; more += more == 2 || more == 63 ? 61 : 1) {
            Bits bits = Made.head(Bits.packed(), true, 0, 0);
            for (int i = 0; i < 200 - 11 - more; i++) {
                Made.told(bits, 0);
            }
            Made.told(bits, 18).number(more, 7);
            Made.told(bits, 1);
            byte[] row = rest(bits, Made.lengths(257, 200, 1), 201);
            Patched.makes("18 and " + more, row, new byte[] {(byte) 200});
        }
    }

    private static void numbersOfLengths() {
        Doc.says(TERMS, "Then symbols.");
        int[] ab = Made.lengths(257, 'a', 1, 'b', 2, 256, 2);
        Patched.makes("directly behind", new Made(Bits.packed(), true, ab, NONE_AT_ALL).text("abab").end()
                .check(Recipe.bytesOf("abab")), "abab");
        Patched.faulty("a bit between", new Made(Bits.packed(), true, ab, NONE_AT_ALL).code("1").text("abab").end()
                .check(Recipe.bytesOf("abab")));
    }

    private static void codesByNumber() {
        Doc.says(TERMS, "CODES: of those of one length those of lesser symbols come first, and as numbers they go up by"
                + " one;");
        int[] eight = new int[257];
        for (int i = 0; i < 7; i++) {
            eight[10 * i] = 3;
        }
        eight[256] = 3;
        Made part = new Made(Bits.packed(), true, eight, NONE_AT_ALL);
        part.code("000").code("001").code("010").code("011").code("100").code("101").code("110").code("111");
        byte[] made = {0, 10, 20, 30, 40, 50, 60};
        Patched.makes("eight of three bits", part.bits().check(made), made);
    }

    private static void codesByLength() {
        Doc.says(TERMS, "the first one of a length is twice what would follow the last one of the length before (0 for"
                + " the first length).");
        int[] lengths = Made.lengths(257, 'a', 3, 'b', 1, 'c', 4, 'd', 4, 256, 2);
        Made part = new Made(Bits.packed(), true, lengths, NONE_AT_ALL);
        part.code("0").code("110").code("1110").code("1111").code("0").code("10");
        Patched.makes("lengths 1, 2, 3 and 4", part.bits().check(Recipe.bytesOf("bacdb")), "bacdb");
        // Where a length is left out what follows is doubled twice.
        lengths = Made.lengths(257, 'a', 1, 'b', 3, 'c', 3, 'd', 3, 256, 3);
        part = new Made(Bits.packed(), true, lengths, NONE_AT_ALL);
        part.code("0").code("100").code("101").code("110").code("111");
        Patched.makes("lengths 1 and 3", part.bits().check(Recipe.bytesOf("abcd")), "abcd");
        lengths = Made.lengths(257, 'a', 3, 'b', 3, 'c', 2, 'd', 2, 256, 2);
        part = new Made(Bits.packed(), true, lengths, NONE_AT_ALL);
        part.code("00").code("01").code("110").code("111").code("10");
        Patched.makes("0 for the first length, which is 2", part.bits().check(Recipe.bytesOf("cdab")), "cdab");
    }

    private static void noCode() {
        Doc.says(TERMS, "A symbol with the length 0 has no code.");
        int[] lengths = Made.lengths(257, 1, 2, 3, 2, 254, 2, 256, 2);
        Made part = new Made(Bits.packed(), true, lengths, NONE_AT_ALL);
        byte[] made = {1, 3, (byte) 254};
        Patched.makes("0, 2, 4 and 255 have none", part.code("00").code("01").code("10").code("11").bits().check(made),
                made);
    }

    private static void byteSymbols() {
        Doc.says(TERMS, "SYMBOLS: 0 .. 255 is that byte; 256 ends the part;");
        byte[] made = {0, (byte) 255, 1, (byte) 254};
        Bits bits = Bits.packed().part(true, 1).fixed(0).fixed(255).fixed(1).fixed(254).fixed(256);
        Patched.makes("0 and 255", bits.check(made), made);
        Patched.makes("256 at once", Bits.padded().part(false, 1).fixed(256).part(true, 1).fixed(0).fixed(256)
                .check(new byte[1]), new byte[1]);
        Patched.faulty("257 does not end it", Bits.padded().part(true, 1).fixed(0).fixed(257).check(new byte[1]));
        Patched.faulty("255 does not end it", Bits.padded().part(true, 1).fixed(0).fixed(255).check(new byte[1]));
    }

    private static void lengthSymbols() {
        Doc.says(TERMS, "s from 257 to 285 is a LENGTH: its base and as much as a number of e bits behind it tells: for"
                + " 257 .. 264 the base s - 254 and e = 0; from 265 to 284 e = (s - 261) / 4 and the base"
                + " 3 + (4 + (s - 261) % 4) shifted left by e; 285 is 258, e = 0");
        // The shortest length of each symbol, one behind the other; the longest is one less than the next one's.
        int[] shortest = {3, 4, 5, 6, 7, 8, 9, 10, 11, 13, 15, 17, 19, 23, 27, 31, 35, 43, 51, 59, 67, 83, 99, 115, 131,
            163, 195, 227, 258};
        for (int s = 257; s <= 285; s++) {
            int e = s < 265 || s == 285 ? 0 : (s - 261) / 4;
            int[] mores = {0, 1, (1 << e) - 2, (1 << e) - 1};
            for (int more : mores) {
                if (more >= 0 && more < 1 << e) {
                    byte[] made = new byte[3 + shortest[s - 257] + more];
                    for (int i = 0; i < made.length; i++) {
                        made[i] = (byte) "xyz".charAt(i % 3);
                    }
                    Bits bits = Bits.padded().part(true, 1).fixedText("xyz").fixed(s).number(more, e).fixedDistance(2);
                    Patched.makes("length " + s + " and " + more, bits.fixed(256).check(made), made);
                }
            }
        }
    }

    private static void longestLength() {
        Doc.says(TERMS, "(a length of 258 is packed so, not by 284).");
        for (int n = 257; n <= 259; n++) {
            Parsed row = Parsed.of(new Recipe().run(97, 1 + n));
            int s = row.parts.get(0).lengthSymbols.get(0);
            Due.same("the symbol for the first match of " + n, s, n == 257 ? 284 : 285);
        }
        byte[] made = new byte[259];
        Bits bits = Bits.padded().part(true, 1).fixed(0).fixed(284).number(31, 5).fixedDistance(0).fixed(256);
        Patched.makes("258 by 284 is read", bits.check(made), made);
    }

    private static void distanceSymbols() {
        Doc.says(TERMS, "Then comes the code of a DISTANCE d: for 0 .. 3 d + 1; otherwise e = d / 2 - 1, 1 +"
                + " (2 + d % 2) shifted left by e, and a number of e bits more.");
        int[] nearest = {1, 2, 3, 4, 5, 7, 9, 13, 17, 25, 33, 49, 65, 97, 129, 193, 257, 385, 513, 769, 1025, 1537,
            2049, 3073, 4097, 6145, 8193, 12289, 16385, 24577};
        for (int d = 0; d < 30; d++) {
            int e = d < 4 ? 0 : d / 2 - 1;
            int[] mores = {0, 1, (1 << e) - 2, (1 << e) - 1};
            for (int more : mores) {
                if (more >= 0 && more < 1 << e) {
                    distanceIs(d, more, e, nearest[d] + more);
                }
            }
        }
    }

    /** At the beginning stands 1 2 3, then zeros up to a place from which these are so far away. */
    private static void distanceIs(int d, int more, int e, int distance) {
        byte[] made = new byte[33000];
        byte[] first = {1, 2, 3};
        System.arraycopy(first, 0, made, 0, 3);
        int at = Math.max(3, distance);
        for (int i = 0; i < 3; i++) {
            made[at + i] = made[at + i - distance];
        }
        Bits bits = Bits.packed().pad(20).part(true, 1).fixed(1).fixed(2).fixed(3).fixedRun(0, at - 3);
        bits.fixed(257).fixedDistance(d).number(more, e).fixedRun(0, made.length - at - 3);
        SharedBlocks x = Patched.block(bits.fixed(256).check(made), made.length, 16);
        if (x != null) {
            int from = Math.max(0, at - 20);
            Due.same("distance " + d + " and " + more, x.read(0, from, 40), 40);
            Patched.outIs("distance " + d + " and " + more, x, made, from, 40);
        }
    }

    private static void copies() {
        Doc.says(TERMS, "So many bytes follow that are those so far before, each (also those that are just"
                + " being made).");
        for (int distance = 1; distance <= 7; distance++) {
            for (int s = 257; s <= 264; s++) {
                byte[] made = new byte[7 + s - 254];
                for (int i = 0; i < made.length; i++) {
                    made[i] = i < 7 ? (byte) ('a' + i) : made[i - distance];
                }
                int d = distance < 5 ? distance - 1 : distance < 7 ? 4 : 5;
                int e = d < 4 ? 0 : 1;
                Bits bits = Bits.packed().part(true, 1).fixedText("abcdefg").fixed(s).fixedDistance(d);
                bits.number(distance == 6 ? 1 : 0, e).fixed(256);
                Patched.makes((s - 254) + " from " + distance + " before", bits.check(made), made);
            }
        }
        // A match of a part reaches bytes of the parts before, whatever their sort.
        int[] lengths = Made.lengths(258, 'a', 1, 256, 2, 257, 2);
        Bits bits = Bits.packed().stored(false, Recipe.bytesOf("xy"));
        new Made(bits, false, lengths, Made.lengths(3, 2, 1)).text("a").symbol(257).distance(2, 0, 0).end();
        bits.part(true, 1).fixed(257).fixedDistance(3).fixed(256);
        Patched.makes("matches over parts", bits.check(Recipe.bytesOf("xyaxyaaxy")), "xyaxyaaxy");
    }
}
