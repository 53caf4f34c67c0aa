import java.util.Arrays;

/**
 * The faults of a packed row: each one at its edge, and the row one step before it, which has none. Where it can be, a
 * faulty row would be good in all else, its check among that, if the fault were not seen.
 */
final class FaultEdges {
    private static final String TERMS = "Terms";
    private static final int[] NONE_AT_ALL = {0};
    private static final String TEXT = "abcdef";
    private static final byte[] MADE = Recipe.bytesOf(TEXT);

    private FaultEdges() {
    }

    static void run() {
        dividedBy31();
        lowerFour();
        othersAbove7();
        bit32();
        bitsMissing();
        missingOnce();
        zerosMissing();
        bytesLeft();
        sort3();
        numbersOfStored();
        hAbove29();
        dAbove29();
        nothingBefore16();
        moreLengths();
        sumAbove1();
        sumBelow1();
        oneAlone();
        noneAtAll();
        noEnd();
        noBeginning();
        symbolAbove285();
        distanceAbove29();
        beyondTheFirst();
        aboveTheWindow();
        moreBytes();
        moreAsNothing();
        otherCheck();
    }

    /** A row of a fixed part behind other first bytes. */
    private static byte[] withFirst(int x, int y) {
        return new Bits().number(x, 8).number(y, 8).part(true, 1).fixedText(TEXT).fixed(256).check(MADE);
    }

    /** A second byte that divides by 31 with this first one, with the bit 32 or without. */
    private static int secondFor(int x, boolean bit32) {
        for (int y = 0; y < 256; y++) {
            if ((256 * x + y) % 31 == 0 && (y & 32) != 0 == bit32) {
                return y;
            }
        }
        return -1;
    }

    private static void firstIs(int x, int y, boolean good) {
        if (good) {
            Patched.makes(x + " and " + y, withFirst(x, y), TEXT);
        } else {
            Patched.faulty(x + " and " + y, withFirst(x, y));
        }
    }

    private static void dividedBy31() {
        Doc.says(TERMS, "It is a FAULT of a packed row: the first two bytes are, as 256 x + y, not divided by 31,");
        for (int x = 8; x < 128; x += 16) {
            for (int y = 0; y < 256; y++) {
                if ((y & 32) == 0) {
                    firstIs(x, y, (256 * x + y) % 31 == 0);
                }
            }
        }
    }

    private static void lowerFour() {
        Doc.says(TERMS, "or the first one's lower four bits are not 8,");
        for (int high = 0; high < 8; high++) {
            for (int low = 0; low < 16; low++) {
                firstIs(16 * high + low, secondFor(16 * high + low, false), low == 8);
            }
        }
    }

    private static void othersAbove7() {
        Doc.says(TERMS, "its others above 7,");
        for (int high = 0; high < 16; high++) {
            firstIs(16 * high + 8, secondFor(16 * high + 8, false), high <= 7);
        }
    }

    private static void bit32() {
        Doc.says(TERMS, "or the second one has the bit 32;");
        for (int x = 8; x < 128; x += 16) {
            firstIs(x, secondFor(x, false), true);
            firstIs(x, secondFor(x, true), false);
        }
    }

    /** A row of all sorts of parts. */
    private static byte[] allSorts() {
        Bits bits = Bits.packed().pad(2).part(false, 1).fixedText("abc").fixed(270).number(3, 2).fixedDistance(2)
                .fixed(256);
        bits.stored(false, Recipe.bytesOf("de"));
        int[] symbols = Made.lengths(258, 'a', 1, 256, 2, 257, 2);
        new Made(bits, true, symbols, Made.lengths(6, 4, 1, 5, 1)).text("aa").symbol(257).distance(5, 1, 1).end();
        return bits.check(allSortsMade());
    }

    private static byte[] allSortsMade() {
        return Recipe.bytesOf("abc" + "abcabcabcabcabcabcabcabcab" + "de" + "aa" + "bca");
    }

    private static void bitsMissing() {
        Doc.says(TERMS, "bits are missing,");
        byte[] row = allSorts();
        Patched.makes("none is missing", row, allSortsMade());
        for (int n = row.length - 1; n >= 10; n--) {
            Patched.faulty((row.length - n) + " bytes are missing", Arrays.copyOf(row, n));
        }
        // The row ends in what is told here, behind the last whole byte of it.
        Patched.faulty("a stored part's numbers", Bits.packed().pad(2).part(true, 0).endByte().number(0, 16).bytes());
        Patched.faulty("a stored part's second number", Bits.packed().pad(2).part(true, 0).endByte().number(0, 16)
                .number(65535, 8).bytes());
        Patched.faulty("a stored part's bytes", Bits.packed().pad(2).part(true, 0).endByte().number(5, 16)
                .number(65530, 16).number(0, 32).bytes());
        Patched.faulty("a stored part's bytes, and no check", Bits.packed().pad(2).part(true, 0).endByte().number(7, 16)
                .number(65528, 16).number(0, 32).bytes());
        Patched.faulty("the check", Bits.packed().pad(2).part(true, 1).fixedText(TEXT).fixed(256).bytes());
        Patched.faulty("a part", Bits.packed().pad(2).part(false, 1).fixedText(TEXT).fixed(256).bytes());
        Patched.faulty("a stored part's bytes, which are the check", Bits.packed().part(false, 1).fixedText(TEXT)
                .fixed(256).part(true, 0).endByte().number(4, 16).number(65531, 16).check(MADE));
        Patched.faulty("many bytes of a stored part", Bits.packed().part(false, 1).fixedText(TEXT).fixed(256)
                .part(true, 0).endByte().number(65535, 16).number(0, 16).check(MADE));
        Patched.faulty("a part, before a check", Bits.packed().pad(2).part(false, 1).fixedText(TEXT).fixed(256)
                .check(MADE));
    }

    /** What was missing once is not missing in what is read next. */
    private static void missingOnce() {
        Doc.says(TERMS, "bits are missing,");
        SharedBlocks x = new SharedBlocks();
        x.fill(0, 0, 1, 4096);
        x.fill(1, 0, 2, 4096);
        x.put(12, true, false);
        int second = x.about(1, 2);
        // The end of the first block's part becomes a code that goes on.
        for (int i = second - 6; i < second; i++) {
            x.patch(i, 0x55);
        }
        for (int i = 0; i < 3; i++) {
            Due.same("the first block", x.read(0, 0, 9), SharedBlocks.SPOILT);
            Due.same("the second one", x.read(1, 0, 9), 9);
        }
        byte[] row = allSorts();
        for (int n = 12; n < row.length; n++) {
            x = Patched.rests(Arrays.copyOf(row, n), 1, 4000, 12);
            if (x != null) {
                Due.same("so many bytes: " + n, x.read(0, 0, 1), SharedBlocks.SPOILT);
                x.put(12, true, true);
                Due.same("put again", x.read(0, 0, 1), 1);
            }
        }
    }

    /** Rows whose missing bytes would be zeros. */
    private static void zerosMissing() {
        Doc.says(TERMS, "bits are missing,");
        // 1 + 99 + 100 + 56 = 256, and so the check's last byte is 0.
        byte[] made = {99, 100, 56};
        byte[] row = Bits.packed().part(true, 1).fixed(99).fixed(100).fixed(56).fixed(256).check(made);
        Due.same("the last byte", row[row.length - 1], 0);
        Patched.makes("a check with a last byte 0", row, made);
        Patched.faulty("without it", Arrays.copyOf(row, row.length - 1));
        // 1 + 256 * 255 + 240 = 65521, and so the last two bytes are 0.
        byte[] zero = new byte[257];
        Arrays.fill(zero, (byte) 255);
        zero[256] = (byte) 240;
        Bits bits = Bits.padded().part(true, 1).fixed(255).fixed(284).number(28, 5).fixedDistance(0).fixed(240);
        row = bits.fixed(256).check(zero);
        Due.same("the last two bytes", row[row.length - 1] | row[row.length - 2], 0);
        Patched.makes("a check with two last bytes 0", row, zero);
        Patched.faulty("without one of them", Arrays.copyOf(row, row.length - 1));
        Patched.faulty("without both", Arrays.copyOf(row, row.length - 2));
    }

    private static void bytesLeft() {
        Doc.says(TERMS, "or bytes are left behind the check;");
        byte[] row = withFirst(120, 156);
        Patched.makes("none is left", row, TEXT);
        for (int n = 1; n <= 5; n++) {
            Patched.faulty(n + " are left", Arrays.copyOf(row, row.length + n));
        }
        byte[] twice = Arrays.copyOf(row, row.length + 4);
        System.arraycopy(row, row.length - 4, twice, row.length, 4);
        Patched.faulty("the check twice", twice);
    }

    private static void sort3() {
        Doc.says(TERMS, "the sort is 3;");
        for (int sort = 1; sort <= 3; sort += 2) {
            byte[] alone = Bits.packed().part(true, sort).fixedText(TEXT).fixed(256).check(MADE);
            byte[] last = Bits.packed().part(false, 1).fixedText(TEXT).fixed(256).part(true, sort).fixed(256)
                    .check(MADE);
            byte[] first = Bits.packed().part(false, sort).fixedText(TEXT).fixed(256).part(true, 1).fixed(256)
                    .check(MADE);
            byte[] empty = Bits.packed().part(false, 1).fixedText(TEXT).fixed(256).part(true, sort)
                    .check(MADE);
            if (sort == 1) {
                Patched.makes("the sort 1", alone, TEXT);
                Patched.makes("the sort 1 in the last part", last, TEXT);
                Patched.makes("the sort 1 in the first part", first, TEXT);
            } else {
                Patched.faulty("the sort 3", alone);
                Patched.faulty("the sort 3 in the last part", last);
                Patched.faulty("the sort 3 in the first part", first);
                Patched.faulty("the sort 3 and nothing behind it", empty);
            }
        }
    }

    private static byte[] storedWith(int n, int other) {
        Bits bits = Bits.packed().part(true, 0).endByte().number(n, 16).number(other, 16);
        for (byte b : MADE) {
            bits.number(b, 8);
        }
        return bits.check(MADE);
    }

    private static void numbersOfStored() {
        Doc.says(TERMS, "the two numbers of a stored part don't fit;");
        Patched.makes("6 and 65529", storedWith(6, 65529), TEXT);
        for (int step = -2; step <= 2; step++) {
            if (step != 0) {
                Patched.faulty("6 and 65529, and " + step, storedWith(6, 65529 + step));
                Patched.faulty("6, and " + step + ", and 65529", storedWith(6 + step, 65529));
            }
        }
        for (int bit = 0; bit < 16; bit++) {
            Patched.faulty("the second number, bit " + bit, storedWith(6, 65529 ^ 1 << bit));
            Patched.faulty("the first number, bit " + bit, storedWith(6 ^ 1 << bit, 65529));
        }
        Patched.faulty("6 and 6", storedWith(6, 6));
        Patched.faulty("6 and 0", storedWith(6, 0));
        // Nothing comes behind the two numbers.
        for (int n : new int[] {0, 1, 4, 6, 65535}) {
            for (int other : new int[] {0, 1, 65529, 65534, 65535}) {
                byte[] row = Bits.packed().part(false, 1).fixedText(TEXT).fixed(256).part(true, 0).endByte()
                        .number(n, 16).number(other, 16).check(MADE);
                if (n == 0 && other == 65535) {
                    Patched.makes("0 and 65535", row, TEXT);
                } else {
                    Patched.faulty(n + " and " + other + " and nothing", row);
                }
            }
        }
    }

    private static int[] ab(int n) {
        return Made.lengths(n, 'a', 1, 'b', 2, 256, 2);
    }

    private static byte[] madeRow(int[] symbols, int[] distances) {
        return new Made(Bits.packed(), true, symbols, distances).text("abab").end().check(Recipe.bytesOf("abab"));
    }

    private static void hAbove29() {
        Doc.says(TERMS, "h above 29,");
        for (int h = 27; h <= 31; h++) {
            byte[] row = madeRow(ab(257 + h), NONE_AT_ALL);
            byte[] both = madeRow(ab(257 + h), new int[30]);
            if (h <= 29) {
                Patched.makes("h " + h, row, "abab");
                Patched.makes("h " + h + ", d 29", both, "abab");
            } else {
                Patched.faulty("h " + h, row);
                Patched.faulty("h " + h + ", d 29", both);
            }
        }
    }

    private static void dAbove29() {
        Doc.says(TERMS, "or d above 29;");
        for (int d = 27; d <= 31; d++) {
            byte[] row = madeRow(ab(257), new int[d + 1]);
            byte[] both = madeRow(ab(286), new int[d + 1]);
            if (d <= 29) {
                Patched.makes("d " + d, row, "abab");
                Patched.makes("d " + d + ", h 29", both, "abab");
            } else {
                Patched.faulty("d " + d, row);
                Patched.faulty("d " + d + ", h 29", both);
            }
        }
    }

    private static void nothingBefore16() {
        Doc.says(TERMS, "a 16 without a length before,");
        for (int before = 0; before < 2; before++) {
            for (int more = 0; more < 4; more++) {
                Bits bits = Made.head(Bits.packed(), true, 0, 0);
                if (before > 0) {
                    Made.told(bits, 0);
                }
                Made.told(bits, 16).number(more, 2);
                Made.zeros(bits, 97 - before - 3 - more);
                Made.told(bits, 1, 2);
                Made.zeros(bits, 256 - 99);
                Made.told(bits, 2, 0);
                byte[] row = bits.code("0").code("10").code("0").code("10").code("11").check(Recipe.bytesOf("abab"));
                if (before > 0) {
                    Patched.makes("one before the 16 and " + more, row, "abab");
                } else {
                    Patched.faulty("none before the 16 and " + more, row);
                }
            }
        }
    }

    /** a 1, b 2, 256 2, and as distances what is told; the symbols of abab behind it. */
    private static byte[] withDistances(int d, int[][] told) {
        Bits bits = Made.zeros(Made.head(Bits.packed(), true, 0, d), 97);
        Made.told(bits, 1, 2);
        Made.zeros(bits, 256 - 99);
        Made.told(bits, 2);
        for (int[] each : told) {
            Made.told(bits, each[0]).number(each[1], each[0] < 16 ? 0 : each[0] == 16 ? 2 : each[0] == 17 ? 3 : 7);
        }
        return bits.code("0").code("10").code("0").code("10").code("11").check(Recipe.bytesOf("abab"));
    }

    private static void moreLengths() {
        Doc.says(TERMS, "or more lengths than there are to be;");
        Patched.makes("four by 2 and 16", withDistances(3, new int[][] {{2, 0}, {16, 0}}), "abab");
        Patched.faulty("four by 2, 2 and 16, one too many", withDistances(3, new int[][] {{2, 0}, {2, 0}, {16, 0}}));
        Patched.faulty("four by 2 and 16, one too many", withDistances(3, new int[][] {{2, 0}, {16, 1}}));
        Patched.faulty("four by 2 and 16, three too many", withDistances(3, new int[][] {{2, 0}, {16, 3}}));
        Patched.faulty("four by 2 and 16 and another", withDistances(3, new int[][] {{2, 0}, {16, 0}, {16, 0}}));
        for (int more = 0; more < 8; more++) {
            Patched.makes("just as many by 17", withDistances(2 + more, new int[][] {{17, more}}), "abab");
            Patched.faulty("one too many by 17", withDistances(1 + more, new int[][] {{17, more}}));
        }
        for (int more = 0; more < 19; more++) {
            Patched.makes("just as many by 18", withDistances(10 + more, new int[][] {{18, more}}), "abab");
            Patched.faulty("one too many by 18", withDistances(9 + more, new int[][] {{18, more}}));
        }
        Patched.faulty("far too many by 18", withDistances(0, new int[][] {{18, 127}}));
        Patched.faulty("far too many, twice", withDistances(10, new int[][] {{0, 0}, {18, 127}}));
    }

    /** Lengths 1, 2, 3 .. up to a most, the last one twice: 256 has the first, the symbols from 97 on the others. */
    private static int[] chain(int most, int lastTimes) {
        int[] symbols = Made.lengths(257, 256, 1);
        for (int length = 2; length < most; length++) {
            symbols[95 + length] = length;
        }
        for (int i = 0; i < lastTimes; i++) {
            symbols[95 + most + i] = most;
        }
        return symbols;
    }

    private static int[] distanceChain(int most, int lastTimes) {
        int[] distances = new int[most - 1 + lastTimes];
        for (int length = 1; length < most; length++) {
            distances[length - 1] = length;
        }
        for (int i = 0; i < lastTimes; i++) {
            distances[most - 1 + i] = most;
        }
        return distances;
    }

    private static byte[] symbolsRow(int[] symbols) {
        return new Made(Bits.packed(), true, symbols, NONE_AT_ALL).text("abba").end().check(Recipe.bytesOf("abba"));
    }

    private static byte[] distancesRow(int[] distances) {
        int[] symbols = Made.lengths(258, 'a', 1, 256, 2, 257, 2);
        return new Made(Bits.packed(), true, symbols, distances).text("aa").symbol(257).distance(0, 0, 0).end()
                .check(Recipe.bytesOf("aaaaa"));
    }

    /** The 19 with codes of these lengths for 18, 0, 1, 2 and from 3 on, which tell a 1, b 2 and 256 2. */
    private static byte[] sizesRow(int... of) {
        int[] sizes = new int[19];
        int[] order = {18, 0, 1, 2, 3, 4, 5, 6, 7, 8, 9};
        for (int i = 0; i < of.length; i++) {
            sizes[order[i]] = of[i];
        }
        String[] codes = Model.codes(sizes);
        Bits bits = Bits.packed().part(true, 2).number(0, 5).number(0, 5).number(15, 4);
        for (int s : Made.ORDER) {
            bits.number(sizes[s], 3);
        }
        bits.code(codes[18]).number(97 - 11, 7).code(codes[1]).code(codes[2]);
        bits.code(codes[18]).number(127, 7).code(codes[18]).number(256 - 99 - 138 - 11, 7);
        bits.code(codes[2]).code(codes[0]);
        return bits.code("0").code("10").code("0").code("11").check(Recipe.bytesOf("aba"));
    }

    private static void sumAbove1() {
        Doc.says(TERMS, "lengths that make no codes (the sum of 2 ^ -length over all codes is above 1,");
        for (int most = 3; most <= 15; most++) {
            Patched.makes("symbols up to " + most, symbolsRow(chain(most, 2)), "abba");
            Patched.faulty("symbols up to " + most + ", one too many", symbolsRow(chain(most, 3)));
            Patched.makes("distances up to " + most, distancesRow(distanceChain(most, 2)), "aaaaa");
            Patched.faulty("distances up to " + most + ", one too many", distancesRow(distanceChain(most, 3)));
        }
        Patched.faulty("three distances of one bit", distancesRow(new int[] {1, 1, 1}));
        Patched.faulty("as many as there can be", distancesRow(distanceChain(2, 29)));
        Patched.makes("the 19", sizesRow(1, 2, 3, 4, 5, 6, 7, 7), "aba");
        Patched.faulty("the 19, one too many", sizesRow(1, 2, 3, 4, 5, 6, 7, 7, 7));
        Patched.makes("the 19, four of two bits", sizesRow(2, 2, 2, 2), "aba");
        Patched.faulty("the 19, five of two bits", sizesRow(2, 2, 2, 2, 2));
        Patched.faulty("the 19, four of two bits and one of seven", sizesRow(2, 2, 2, 2, 7));
    }

    private static void sumBelow1() {
        Doc.says(TERMS, "or below 1,");
        for (int most = 4; most <= 15; most++) {
            Patched.makes("symbols up to " + most, symbolsRow(chain(most, 2)), "abba");
            Patched.faulty("symbols up to " + most + ", one too few", symbolsRow(chain(most, 1)));
            Patched.makes("distances up to " + most, distancesRow(distanceChain(most, 2)), "aaaaa");
            Patched.faulty("distances up to " + most + ", one too few", distancesRow(distanceChain(most, 1)));
        }
        Patched.faulty("three symbols of two bits", symbolsRow(Made.lengths(257, 'a', 2, 'b', 2, 256, 2)));
        Patched.faulty("a distance of one bit and one of two", distancesRow(new int[] {1, 2}));
        Patched.faulty("two distances of two bits", distancesRow(new int[] {2, 2}));
        Patched.makes("the 19", sizesRow(1, 2, 3, 4, 5, 6, 7, 7), "aba");
        Patched.faulty("the 19, one too few", sizesRow(1, 2, 3, 4, 5, 6, 7));
        Patched.faulty("the 19, one of three bits instead of two", sizesRow(2, 2, 2, 3));
    }

    private static byte[] endAlone(int length) {
        Bits bits = Bits.packed();
        new Made(bits, false, Made.lengths(257, 256, length), NONE_AT_ALL).end();
        return bits.part(true, 1).fixedText(TEXT).fixed(256).check(MADE);
    }

    private static void oneAlone() {
        Doc.says(TERMS, "but for the one code of length 1 alone,");
        Patched.makes("256 alone", endAlone(1), TEXT);
        Patched.makes("a distance alone", distancesRow(new int[] {1}), "aaaaa");
        Patched.makes("a distance alone, behind others", distancesRow(new int[] {1, 0, 0}), "aaaaa");
        int[] symbols = Made.lengths(258, 'a', 1, 256, 2, 257, 2);
        Patched.makes("a later distance alone", new Made(Bits.packed(), true, symbols, new int[] {0, 0, 1})
                .text("aaa").symbol(257).distance(2, 0, 0).end().check(Recipe.bytesOf("aaaaaa")), "aaaaaa");
        for (int length = 2; length <= 15; length++) {
            Patched.faulty("256 alone with " + length, endAlone(length));
            Patched.faulty("a distance alone with " + length, distancesRow(new int[] {length}));
        }
        Patched.faulty("two with the length 2", symbolsRow(Made.lengths(257, 'a', 2, 'b', 3, 256, 2)));
        // One of the 19 alone can tell but the same length again and again, and of that no codes are made.
        for (int s : Made.ORDER) {
            for (int length = 1; length <= 7; length++) {
                Bits bits = Bits.packed().part(true, 2).number(0, 5).number(0, 5).number(15, 4);
                for (int each : Made.ORDER) {
                    bits.number(each == s ? length : 0, 3);
                }
                Patched.faulty(s + " alone with " + length, bits.number(0, 28).number(0, 28).number(0, 28)
                        .number(0, 28).number(0, 28).check(new byte[1]));
            }
        }
    }

    private static void noneAtAll() {
        Doc.says(TERMS, "and, for distances, none at all;");
        for (int d = 0; d < 30; d++) {
            Patched.makes("no distance among " + (d + 1), madeRow(ab(257), new int[d + 1]), "abab");
        }
        Bits bits = Made.zeros(Made.head(Bits.packed(), true, 0, 0), 258);
        Patched.faulty("no symbol", bits.number(0, 28).check(new byte[0]));
        bits = Bits.packed().part(true, 2).number(0, 5).number(0, 5).number(15, 4);
        for (int i = 0; i < 19; i++) {
            bits.number(0, 3);
        }
        Patched.faulty("none of the 19", bits.number(0, 28).number(0, 28).check(new byte[0]));
    }

    private static void noEnd() {
        Doc.says(TERMS, "or 256 has no code);");
        Patched.makes("256 has one", madeRow(ab(257), NONE_AT_ALL), "abab");
        int[][] without = {Made.lengths(257, 'a', 1, 'b', 1), Made.lengths(257, 'a', 1, 'b', 2, 'c', 2),
            Made.lengths(258, 'a', 1, 'b', 2, 257, 2), Made.lengths(257, 'a', 1), Made.lengths(257, 255, 1)};
        for (int i = 0; i < without.length; i++) {
            Bits bits = Bits.packed();
            new Made(bits, false, without[i], NONE_AT_ALL).code("0").code("0");
            Patched.faulty("256 has none " + i, bits.part(true, 1).fixed(256).check(Recipe.bytesOf("aa")));
            bits = Bits.packed();
            new Made(bits, true, without[i], NONE_AT_ALL).code("0").code("0");
            Patched.faulty("256 has none in the last part " + i, bits.check(Recipe.bytesOf("aa")));
        }
    }

    private static void noBeginning() {
        Doc.says(TERMS, "bits that are no beginning of a code;");
        for (int n = 0; n < 16; n++) {
            Bits bits = Bits.packed();
            new Made(bits, false, Made.lengths(257, 256, 1), NONE_AT_ALL).code("1").number(0, n);
            Patched.faulty("256 alone by 1, and " + n, bits.endByte().stored(true, MADE).check(MADE));
            int[] symbols = Made.lengths(258, 'a', 1, 256, 2, 257, 2);
            Made part = new Made(Bits.packed(), true, symbols, new int[] {1}).text("aa").symbol(257);
            Patched.faulty("a distance alone by 1, and " + n, part.code("1").number(0, n).end()
                    .check(Recipe.bytesOf("aaaaa")));
            part = new Made(Bits.packed(), true, symbols, NONE_AT_ALL).text("aa").symbol(257);
            Patched.faulty("no distance by 0, and " + n, part.code("0").number(0, n).end()
                    .check(Recipe.bytesOf("aaaaa")));
            for (byte[] made : new byte[][] {{97, 97, 0, 0, 0}, {97, 97}}) {
                part = new Made(Bits.packed(), true, symbols, new int[] {1}).text("aa").symbol(257);
                Patched.faulty("a distance alone by 1 as zeros or nothing", part.code("1").number(0, n).end()
                        .check(made));
                part = new Made(Bits.packed(), true, symbols, new int[] {1}).text("aa").symbol(257);
                Patched.faulty("a distance alone by 1 as an end", part.code("1").number(0, n).bits().check(made));
            }
        }
        Bits bits = Bits.packed().part(true, 2).number(0, 5).number(0, 5).number(0, 4);
        bits.number(0, 3).number(0, 3).number(1, 3).number(0, 3);
        Patched.faulty("18 alone by 1", bits.code("1").number(127, 7).code("1").number(109, 7).number(0, 28)
                .check(new byte[0]));
    }

    private static void symbolAbove285() {
        Doc.says(TERMS, "a symbol above 285,");
        byte[] long258 = new byte[259];
        for (int s = 285; s <= 287; s++) {
            byte[] row = Bits.padded().part(true, 1).fixed(0).fixed(s).fixedDistance(0).fixed(256).check(long258);
            if (s == 285) {
                Patched.makes("285", row, long258);
                continue;
            }
            Patched.faulty(s + " as 285", row);
            Patched.faulty(s + " as an end", Bits.packed().part(true, 1).fixedText(TEXT).fixed(s).check(MADE));
            Patched.faulty(s + " as nothing", Bits.packed().part(true, 1).fixedText("abc").fixed(s).fixedText("def")
                    .fixed(256).check(MADE));
            Patched.faulty(s + " as nothing with a distance", Bits.packed().part(true, 1).fixedText("abc").fixed(s)
                    .fixedDistance(0).fixedText("def").fixed(256).check(MADE));
        }
    }

    /** A block of so many zeros has this row. */
    private static void blockIs(String name, Bits bits, int n, boolean good) {
        SharedBlocks x = Patched.block(bits.check(new byte[n]), n, 16);
        if (x != null) {
            Due.same(name, x.read(0, n - 9, 9), good ? 9 : SharedBlocks.SPOILT);
            Due.same(name + ": taken", x.taken(), good ? 1 : 0);
        }
    }

    private static void distanceAbove29() {
        Doc.says(TERMS, "or a distance above 29;");
        int n = 33000;
        for (int d = 28; d <= 30; d++) {
            for (int more = 0; more < 9000; more += d == 30 ? 200 : 8191) {
                int e = d / 2 - 1;
                Bits bits = Bits.packed().pad(20).part(true, 1).fixedRun(0, n - 3);
                bits.fixed(257).fixedDistance(d).number(more, e).fixed(256);
                blockIs("distance " + d + " and " + more, bits, n, d <= 29);
            }
        }
        for (int d = 30; d <= 31; d++) {
            Patched.faulty(d + " as an end", Bits.packed().part(true, 1).fixedText(TEXT).fixed(257).fixedDistance(d)
                    .check(MADE));
            Patched.faulty(d + " as nothing", Bits.packed().part(true, 1).fixedText(TEXT).fixed(257).fixedDistance(d)
                    .fixed(256).check(MADE));
            Patched.faulty(d + " as a lesser one", Bits.packed().part(true, 1).fixedText("aaaa").fixed(257)
                    .fixedDistance(d).fixed(256).check(Recipe.bytesOf("aaaaaaa")));
            Patched.faulty(d + " as a lesser one, with bits more", Bits.packed().part(true, 1).fixedText("aaaa")
                    .fixed(257).fixedDistance(d).number(0, 14).fixed(256).check(Recipe.bytesOf("aaaaaaa")));
        }
    }

    private static void beyondTheFirst() {
        Doc.says(TERMS, "a distance beyond the first byte that was made,");
        for (int n : new int[] {0, 1, 2, 3, 4, 5, 40, 256, 257, 258, 3000}) {
            for (int distance = Math.max(1, n - 1); distance <= n + 2; distance++) {
                Bits one = Bits.padded().part(true, 1).fixedRun(0, n).fixed(257).fixedBack(distance);
                byte[] row = one.fixed(256).check(new byte[n + 3]);
                Bits two = Bits.padded().stored(false, new byte[n / 2]).part(false, 1).fixedRun(0, n - n / 2)
                        .fixed(256);
                byte[] parts = n > 400 ? row : two.part(true, 1).fixed(257).fixedBack(distance).fixed(256)
                        .check(new byte[n + 3]);
                String name = distance + " back from " + n;
                byte[] end = Bits.padded().part(true, 1).fixedRun(0, n).fixed(257).fixedBack(distance)
                        .check(new byte[n]);
                Patched.faulty(name + ", and no end", end);
                if (distance > n) {
                    Patched.faulty(name + ", as nothing", Bits.padded().part(true, 1).fixedRun(0, n).fixed(257)
                            .fixedBack(distance).fixed(256).check(new byte[n]));
                }
                if (distance <= n) {
                    Patched.makes(name, row, new byte[n + 3]);
                    Patched.makes(name + ", by parts", parts, new byte[n + 3]);
                } else {
                    Patched.faulty(name, row);
                    Patched.faulty(name + ", by parts", parts);
                }
            }
        }
    }

    private static void aboveTheWindow() {
        Doc.says(TERMS, "or above 256 shifted left by the upper four bits of the first byte of all;");
        for (int upper = 0; upper < 8; upper++) {
            int x = 16 * upper + 8;
            int window = 256 << upper;
            for (int distance = window - 1; distance <= Math.min(window + 1, 32768); distance++) {
                int n = window + 100;
                Bits bits = new Bits().number(x, 8).number(secondFor(x, false), 8).pad(20);
                bits.part(true, 1).fixedRun(0, n - 3).fixed(257).fixedBack(distance).fixed(256);
                blockIs(distance + " back behind " + x, bits, n, distance <= window);
                if (distance > window) {
                    bits = new Bits().number(x, 8).number(secondFor(x, false), 8).pad(20);
                    bits.part(true, 1).fixedRun(0, n).fixed(257).fixedBack(distance);
                    blockIs(distance + " back behind " + x + ", as an end", bits, n, false);
                    bits = new Bits().number(x, 8).number(secondFor(x, false), 8).pad(20);
                    bits.part(true, 1).fixedRun(0, n).fixed(257).fixedBack(distance).fixed(256);
                    blockIs(distance + " back behind " + x + ", as nothing", bits, n, false);
                }
            }
        }
    }

    private static void moreBytes() {
        Doc.says(TERMS, "more bytes than there may be;");
        for (int log = 12; log <= 15; log++) {
            int block = 1 << log;
            for (int n = block; n <= block + 258; n += n < block + 2 ? 1 : 256) {
                String name = n + " with blocks of " + block;
                byte[] byMatch = Bits.packed().pad(20).part(true, 1).fixedRun(0, n - 258).fixed(285).fixedDistance(0)
                        .fixed(256).check(new byte[n]);
                byte[] byByte = Bits.packed().pad(20).part(true, 1).fixedRun(0, n - 1).fixed(0).fixed(256)
                        .check(new byte[n]);
                byte[] stored = Bits.packed().pad(20).part(false, 1).fixedRun(0, n - 20).fixed(256)
                        .stored(true, new byte[20]).check(new byte[n]);
                byte[] storedOne = Bits.packed().pad(20).part(false, 1).fixedRun(0, n - 1).fixed(256)
                        .stored(true, new byte[1]).check(new byte[n]);
                for (byte[] row : new byte[][] {byMatch, byByte, stored, storedOne}) {
                    readIs(name, Patched.block(row, block, log), n == block);
                    readIs(name + ", a fragment", Patched.rests(row, 1, block - 1, log), n == block);
                }
            }
        }
    }

    /** Rows of a block of zeros in which more bytes come, and which would be good if these were an end, or nothing. */
    private static void moreAsNothing() {
        Doc.says(TERMS, "more bytes than there may be;");
        int n = 4096;
        for (int end = 0; end < 2; end++) {
            Bits byByte = Bits.packed().pad(20).part(true, 1).fixedRun(0, n).fixed(0);
            Bits byMatch = Bits.packed().pad(20).part(true, 1).fixedRun(0, n).fixed(257).fixedDistance(0);
            if (end == 1) {
                byByte.fixed(256);
                byMatch.fixed(256);
            }
            readIs("a byte more, " + end, Patched.block(byByte.check(new byte[n]), n, 12), false);
            readIs("a match more, " + end, Patched.block(byMatch.check(new byte[n]), n, 12), false);
        }
        Bits stored = Bits.packed().pad(20).part(false, 1).fixedRun(0, n).fixed(256).part(true, 0).endByte();
        readIs("a stored byte more", Patched.block(stored.number(1, 16).number(65534, 16).check(new byte[n]), n, 12),
                false);
    }

    private static void readIs(String name, SharedBlocks x, boolean good) {
        if (x != null) {
            Due.same(name, x.read(0, 0, 1), good ? 1 : SharedBlocks.SPOILT);
            Due.same(name + ": taken", x.taken(), good ? 1 : 0);
        }
    }

    private static void otherCheck() {
        Doc.says(TERMS, "another check.");
        byte[] row = withFirst(120, 156);
        Patched.makes("the check", row, TEXT);
        for (int i = 1; i <= 4; i++) {
            for (int bit = 0; bit < 8; bit++) {
                byte[] other = row.clone();
                other[other.length - i] ^= (byte) (1 << bit);
                Patched.faulty("bit " + bit + " of byte " + i + " from the end", other);
            }
            for (int step = -1; step <= 1; step += 2) {
                byte[] other = row.clone();
                other[other.length - i] += (byte) step;
                Patched.faulty("byte " + i + " from the end, and " + step, other);
            }
        }
        byte[] none = row.clone();
        Arrays.fill(none, none.length - 4, none.length, (byte) 0);
        Patched.faulty("0", none);
        Patched.faulty("the bytes in another order", Bits.packed().part(true, 1).fixedText("abcdfe").fixed(256)
                .check(MADE));
        // The same sums, but for what is beyond 65521.
        byte[] high = new Recipe().run(255, 256).run(241, 1).all();
        int check = Bits.adler(high);
        Bits bits = Bits.padded().part(true, 1).fixedRun(255, 256).fixed(241).fixed(256);
        Patched.makes("a is 65522, and so 1", bits.check(check), high);
        bits = Bits.padded().part(true, 1).fixedRun(255, 256).fixed(241).fixed(256);
        Patched.faulty("a is said to be 65522", bits.check(check & 0xffff0000 | 65522));
    }
}
