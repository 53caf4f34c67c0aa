import java.util.Arrays;
import java.util.HashMap;
import java.util.List;
import java.util.Map;
import java.util.Random;
import java.util.zip.Deflater;

/** Packed rows that are patched into the row: which ones are read, and which ones are spoilt. */
final class FaultsTest {
    private FaultsTest() {
    }

    public static void main(String[] args) {
        firstBytes();
        sorts();
        stored();
        fixed();
        faultsAtTheEnd();
        madeHeads();
        madeCodes();
        madeSymbols();
        distances();
        ends();
        lengthsOfFragments();
        restsOfFiles();
        storedTooMuch();
        lengthsOfBlocks();
        everyBit();
        foreignRows();
        Due.end();
    }

    /** How a file is made whose packed row has some length: {seed, drawn bytes, bytes}; by length and most bytes. */
    private static final Map<List<Integer>, int[]> FOUND = new HashMap<>();

    private static SharedBlocks put(int seed, int drawn, int size) {
        return put(seed, drawn, size, size);
    }

    /** Drawn bytes, and 200 up to the size, the first ones in file 0, the others in file 1. */
    private static SharedBlocks put(int seed, int drawn, int size, int first) {
        SharedBlocks x = new SharedBlocks();
        int state = seed;
        for (int i = 0; i < drawn; i++) {
            if (i == 0 || i == first) {
                x.fill(i < first ? 0 : 1, 1, state, i < first ? Math.min(first, drawn) : drawn - first);
            }
            state = 1103515245 * state + 12345;
        }
        if (first > drawn) {
            x.fill(0, 0, 200, first - drawn);
        }
        if (size > Math.max(drawn, first)) {
            x.fill(1, 0, 200, size - Math.max(drawn, first));
        }
        x.put(12, true, true);
        return x;
    }

    private static int packedLength(SharedBlocks x, int size) {
        return size == 4096 ? x.number(0, 0) : x.fragment(0, 1);
    }

    /** The largest file that is packed in so many bytes; just 4096 bytes if that is the most. */
    private static int[] find(int length, int most) {
        for (int size = most; size > 10; size = size * 3 / 4) {
            for (int seed = 1; seed < 4; seed++) {
                int drawn = Math.max(0, length - 60);
                for (int n = 0; n < length && drawn < size; drawn++) {
                    n = packedLength(put(seed, drawn, size), size);
                    if (n == length) {
                        return new int[] {seed, drawn, size};
                    }
                }
            }
            if (size == 4096) {
                break;
            }
        }
        return null;
    }

    /**
     * An object with one packed row of these bytes: of a block if the most are 4096 bytes, otherwise of a fragment, of
     * which file 0 has the first bytes, as many as are said, and file 1 the others; null, and told, if no row that long
     * could be made.
     */
    private static SharedBlocks holding(byte[] packed, int most, int first) {
        List<Integer> key = Arrays.asList(packed.length, most);
        int[] found = FOUND.containsKey(key) ? FOUND.get(key) : find(packed.length, most);
        FOUND.put(key, found);
        Due.holds("a row of " + packed.length + " bytes can be made", found != null);
        if (found == null) {
            return null;
        }
        SharedBlocks x = put(found[0], found[1], found[2], Math.min(first, found[2]));
        Due.same("its length", packedLength(x, found[2]), packed.length);
        long word = 0;
        for (int i = 0; i < packed.length; i++) {
            word = i % 8 == 0 ? x.word(i / 8) : word >>> 8;
            if ((word & 255) != (packed[i] & 255)) {
                x.patch(i, packed[i]);
            }
        }
        return x;
    }

    /** A fragment whose packed row makes these bytes. */
    private static void makes(String name, byte[] packed, byte[] made) {
        SharedBlocks x = holding(packed, 4000, made.length);
        if (x == null || made.length == 0) {
            return;
        }
        int n = x.about(0, 1);
        Due.same(name + ": read", x.read(0, 0, n), n);
        Due.same(name + ": taken", x.taken(), 1);
        for (int i = 0; i <= n / 8; i += 1 + n / 400) {
            long due = 0;
            for (int k = Math.min(8, n - 8 * i) - 1; k >= 0; k--) {
                due = due << 8 | made[8 * i + k] & 255;
            }
            Due.same(name + ": out " + i, x.out(i), due);
        }
        try {
            Due.holds(name + ": by the model", Arrays.equals(made, Model.unpack(packed, 4096)));
        } catch (Model.Fault fault) {
            Due.holds(name + ": by the model, " + fault.getMessage(), false);
        }
    }

    private static void makes(String name, byte[] packed, String made) {
        makes(name, packed, bytes(made));
    }

    private static void faulty(String name, byte[] packed) {
        SharedBlocks x = holding(packed, 4000, 1);
        if (x == null) {
            return;
        }
        Due.same(name + ": read", x.read(0, 0, 1), SharedBlocks.SPOILT);
        Due.same(name + ": taken", x.taken(), 0);
        try {
            Model.unpack(packed, 4096);
            Due.holds(name + ": a fault by the model", false);
        } catch (Model.Fault fault) {
            Due.holds(name, true);
        }
    }

    private static byte[] bytes(String text) {
        byte[] bytes = new byte[text.length()];
        for (int i = 0; i < bytes.length; i++) {
            bytes[i] = (byte) text.charAt(i);
        }
        return bytes;
    }

    /** A row of a fixed part of these letters behind other first bytes. */
    private static byte[] withFirst(int x, int y) {
        return new Bits().number(x, 8).number(y, 8).part(true, 1).fixedText("abcdef").fixed(256).check(bytes("abcdef"));
    }

    private static void firstBytes() {
        makes("120 156", withFirst(120, 156), "abcdef");
        for (int x = 0; x < 256; x++) {
            for (int y = 0; y < 256; y += x % 16 == 8 ? 1 : 37) {
                if ((256 * x + y) % 31 == 0 && (x & 15) == 8 && x < 128 && (y & 32) == 0) {
                    makes(x + " " + y, withFirst(x, y), "abcdef");
                } else if ((256 * x + y) % 31 == 0 || y % 41 == 0) {
                    faulty(x + " " + y, withFirst(x, y));
                }
            }
        }
    }

    private static void sorts() {
        faulty("sort 3", Bits.packed().part(true, 3).fixedText("abcdef").fixed(256).check(bytes("abcdef")));
        faulty("sort 3 behind a good part", Bits.packed().part(false, 1).fixedText("abcdef").fixed(256).part(true, 3)
                .check(bytes("abcdef")));
        makes("parts of all sorts", made(Bits.packed().part(false, 1).fixedText("ab").fixed(256)
                .stored(false, bytes("cd")), false, "bb").part(false, 1).fixed(256).stored(false, new byte[0])
                .part(true, 1).fixed(257).fixedDistance(3).fixed(256).check(bytes("abcdbbcdb")), "abcdbbcdb");
    }

    private static void stored() {
        makes("stored", Bits.packed().stored(true, bytes("hello")).check(bytes("hello")), "hello");
        Bits odd = Bits.packed().part(true, 0).endByte(1).number(5, 16).number(65530, 16);
        for (byte b : bytes("hello")) {
            odd.number(b, 8);
        }
        makes("stored with other bits up to the byte", odd.check(bytes("hello")), "hello");
        makes("stored, empty", Bits.packed().stored(false, new byte[0]).stored(true, bytes("x")).check(bytes("x")), "x");
        for (int bit = 0; bit < 16; bit++) {
            Bits bits = Bits.packed().part(true, 0).endByte().number(5, 16).number(65530 ^ 1 << bit, 16);
            for (byte b : bytes("hello")) {
                bits.number(b, 8);
            }
            faulty("the second number, bit " + bit, bits.check(bytes("hello")));
        }
        Bits bits = Bits.packed().part(true, 0).endByte().number(12, 16).number(65535 - 12, 16);
        for (byte b : bytes("hello")) {
            bits.number(b, 8);
        }
        faulty("bytes of a stored part are missing", bits.check(bytes("hello")));
        faulty("a stored part's numbers are missing",
                Bits.packed().stored(false, bytes("hello")).part(true, 0).endByte().number(0, 8).bytes());
    }

    private static void fixed() {
        makes("all bytes fixed", allFixed(), allBytes());
        for (int s = 286; s <= 287; s++) {
            faulty("symbol " + s, Bits.packed().part(true, 1).fixedText("abcdef").fixed(s).fixedDistance(0).fixed(256)
                    .check(bytes("abcdef")));
        }
        for (int d = 30; d <= 31; d++) {
            faulty("distance " + d, Bits.packed().part(true, 1).fixedText("abcdef").fixed(257).fixedDistance(d)
                    .number(0, 14).fixed(256).check(bytes("abcdef")));
        }
        for (int s = 257; s <= 285; s++) {
            int[] base = Model.lengthBaseAndBits(s);
            for (int more : new int[] {0, (1 << base[1]) - 1}) {
                StringBuilder made = new StringBuilder("xyz");
                for (int i = 0; i < base[0] + more; i++) {
                    made.append("xyz".charAt(i % 3));
                }
                Bits bits = Bits.packed().part(true, 1).fixedText("xyz").fixed(s).number(more, base[1])
                        .fixedDistance(2).fixed(256);
                makes("length " + s + " and " + more, bits.check(bytes(made.toString())), made.toString());
            }
        }
        Bits twice = Bits.packed().part(true, 1).fixed(97);
        twice.fixed(284).number(31, 5).fixedDistance(0).fixed(285).fixedDistance(0).fixed(256);
        byte[] made = new byte[517];
        Arrays.fill(made, (byte) 97);
        makes("258 by 284 too", twice.check(made), made);
    }

    /** The row would be good if what is a fault ended the part. */
    private static void faultsAtTheEnd() {
        for (int s = 286; s <= 287; s++) {
            faulty("symbol " + s + " at the end",
                    Bits.packed().part(true, 1).fixedText("abcdef").fixed(s).check(bytes("abcdef")));
        }
        for (int d = 30; d <= 31; d++) {
            faulty("distance " + d + " at the end", Bits.packed().part(true, 1).fixedText("abcdef").fixed(257)
                    .fixedDistance(d).check(bytes("abcdef")));
        }
        faulty("a distance too far at the end", Bits.packed().part(true, 1).fixedText("abcdef").fixed(257)
                .fixedDistance(5).bit(1).check(bytes("abcdef")));
        for (int n = 0; n < 16; n++) {
            Bits bits = zeros(head(Bits.packed(), false, 0, 0), 256);
            told(bits, 1, 0);
            faulty("no beginning of a code at the end", bits.code("1").number(0, n).endByte()
                    .stored(true, bytes("abcdef")).check(bytes("abcdef")));
        }
    }

    private static byte[] allBytes() {
        byte[] all = new byte[256];
        for (int i = 0; i < 256; i++) {
            all[i] = (byte) i;
        }
        return all;
    }

    private static byte[] allFixed() {
        Bits bits = Bits.packed().part(true, 1);
        for (int i = 0; i < 256; i++) {
            bits.fixed(i);
        }
        return bits.fixed(256).check(allBytes());
    }

    /** A made part's head: the lengths of all codes told one by one, by codes of 5 bits (4 for 0 .. 12). */
    private static Bits head(Bits bits, boolean last, int h, int d) {
        bits.part(last, 2).number(h, 5).number(d, 5).number(15, 4);
        int[] sizes = sizes();
        for (int s : new int[] {16, 17, 18, 0, 8, 7, 9, 6, 10, 5, 11, 4, 12, 3, 13, 2, 14, 1, 15}) {
            bits.number(sizes[s], 3);
        }
        return bits;
    }

    private static int[] sizes() {
        int[] sizes = new int[19];
        for (int s = 0; s < 19; s++) {
            sizes[s] = s < 13 ? 4 : 5;
        }
        return sizes;
    }

    private static Bits told(Bits bits, int... lengths) {
        String[] codes = Model.codes(sizes());
        for (int length : lengths) {
            bits.code(codes[length]);
        }
        return bits;
    }

    private static Bits zeros(Bits bits, int n) {
        int left = n;
        for (; left >= 11; left -= Math.min(left, 138)) {
            told(bits, 18).number(Math.min(left, 138) - 11, 7);
        }
        for (; left > 0; left--) {
            told(bits, 0);
        }
        return bits;
    }

    /** A made part of these letters, of which there are a and b alone; codes: a 0, b 10, end 11. */
    private static Bits made(Bits bits, boolean last, String letters) {
        zeros(head(bits, last, 0, 0), 97);
        told(bits, 1, 2);
        zeros(bits, 256 - 99);
        told(bits, 2, 0);
        return letters(bits, letters).code("11");
    }

    private static Bits letters(Bits bits, String letters) {
        for (int i = 0; i < letters.length(); i++) {
            bits.code(letters.charAt(i) == 'a' ? "0" : "10");
        }
        return bits;
    }

    /** A made part with these lengths for a, b, the end, and distances, whose symbols are still to come. */
    private static Bits madeOf(int a, int b, int end, int... distances) {
        Bits bits = zeros(head(Bits.packed(), true, 1, distances.length - 1), 97);
        told(bits, a, b);
        zeros(bits, 256 - 99);
        // The symbol 257, a match of three, has the length of b.
        told(bits, end, b);
        return told(bits, distances);
    }

    private static void madeHeads() {
        makes("made", made(Bits.packed(), true, "abba").check(bytes("abba")), "abba");
        for (int h = 28; h <= 31; h++) {
            Bits bits = zeros(head(Bits.packed(), true, h, 0), 97);
            told(bits, 1, 2);
            zeros(bits, 256 - 99);
            told(bits, 2);
            zeros(bits, h);
            told(bits, 0);
            byte[] packed = letters(bits, "abab").code("11").check(bytes("abab"));
            if (h <= 29) {
                makes("h " + h, packed, "abab");
            } else {
                faulty("h " + h, packed);
            }
        }
        for (int d = 28; d <= 31; d++) {
            Bits bits = zeros(head(Bits.packed(), true, 0, d), 97);
            told(bits, 1, 2);
            zeros(bits, 256 - 99);
            told(bits, 2);
            zeros(bits, d + 1);
            byte[] packed = letters(bits, "abab").code("11").check(bytes("abab"));
            if (d <= 29) {
                makes("d " + d, packed, "abab");
            } else {
                faulty("d " + d, packed);
            }
        }
        repeats();
        tooMany();
        fewSizes();
    }

    /** The row of lengths by 16, 17 and 18, over the border too. */
    private static void repeats() {
        Bits bits = told(head(Bits.packed(), true, 0, 3), 18).number(97 - 11, 7);
        told(bits, 2, 2, 17).number(0, 3);
        told(bits, 18).number(138 - 11, 7);
        told(bits, 18).number(5, 7);
        // The end's length 2, and by 16 the same for the distances 0 .. 2, of which there are four.
        told(bits, 2, 16).number(0, 2);
        told(bits, 2);
        bits.code("00").code("01").code("00").code("01").code("10");
        faulty("an unfilled code", bits.check(bytes("abab")));
        bits = told(head(Bits.packed(), true, 3, 3), 18).number(97 - 11, 7);
        told(bits, 3, 3, 17).number(0, 3);
        told(bits, 18).number(138 - 11, 7);
        told(bits, 18).number(5, 7);
        told(bits, 1, 3, 3, 0, 2, 16).number(0, 2);
        bits.code("100").code("101").code("110").code("01").code("0");
        makes("repeats", bits.check(bytes("ababa")), "ababa");
        // Distances 0 .. 3 have the length 2, as have four symbols, told by one row of 2 and 16.
        bits = zeros(head(Bits.packed(), true, 0, 3), 97);
        told(bits, 2, 2, 2);
        zeros(bits, 256 - 100);
        told(bits, 2, 16).number(1, 2);
        bits.code("00").code("01").code("10").code("11");
        makes("a 16 over the border", bits.check(bytes("abc")), "abc");
    }

    private static void tooMany() {
        Bits bits = head(Bits.packed(), true, 0, 0);
        told(bits, 16).number(0, 2);
        faulty("a 16 without a length before", bits.check(bytes("abab")));
        for (int s = 16; s <= 18; s++) {
            bits = zeros(head(Bits.packed(), true, 0, 0), 97);
            told(bits, 1, 2);
            zeros(bits, 256 - 99);
            told(bits, 2, s).number(0, s == 16 ? 2 : s == 17 ? 3 : 7);
            faulty("too many by " + s, letters(bits, "abab").code("11").check(bytes("abab")));
        }
        bits = zeros(head(Bits.packed(), true, 0, 2), 97);
        told(bits, 1, 2);
        zeros(bits, 256 - 99);
        told(bits, 2, 17).number(0, 3);
        makes("just as many by 17", letters(bits, "abab").code("11").check(bytes("abab")), "abab");
    }

    /** Codes for the lengths that are left, or too full, or the one alone. */
    private static void fewSizes() {
        // The lengths of the codes for 16, 17, 18 and 0: none, one of two bits, one of one and one of two, too many.
        for (int[] of : new int[][] {{0, 0, 0, 0}, {0, 0, 2, 0}, {0, 0, 1, 2}, {1, 0, 1, 1}}) {
            Bits bits = Bits.packed().part(true, 2).number(0, 5).number(0, 5).number(0, 4);
            for (int length : of) {
                bits.number(length, 3);
            }
            faulty("sizes that make no code " + Arrays.toString(of), bits.number(0, 60).check(bytes("abab")));
        }
        // One size alone, with a code of one bit, is no fault, but then all lengths are the same.
        Bits bits = Bits.packed().part(true, 2).number(0, 5).number(0, 5).number(0, 4);
        bits.number(0, 3).number(0, 3).number(1, 3).number(0, 3);
        bits.code("0").number(127, 7).code("0").number(258 - 138 - 11, 7);
        faulty("all lengths are 0", bits.number(0, 20).check(bytes("abab")));
        bits = Bits.packed().part(true, 2).number(0, 5).number(0, 5).number(0, 4);
        bits.number(0, 3).number(0, 3).number(1, 3).number(0, 3);
        faulty("no beginning of the one size's code", bits.code("1").number(0, 80).check(bytes("abab")));
        // As many as 19 sizes are told as are needed, and not one more.
        bits = Bits.packed().part(true, 2).number(0, 5).number(0, 5).number(14, 4);
        for (int s : new int[] {16, 17, 18, 0, 8, 7, 9, 6, 10, 5, 11, 4, 12, 3, 13, 2, 14, 1}) {
            bits.number(s == 18 ? 1 : s == 0 ? 3 : s == 1 ? 3 : s == 2 ? 2 : 0, 3);
        }
        // Codes: 18 by 0, 2 by 10, 0 by 110, 1 by 111.
        bits.code("0").number(97 - 11, 7).code("111").code("10").code("0").number(127, 7).code("0").number(8, 7);
        bits.code("10").code("110");
        makes("few sizes", letters(bits, "abaab").code("11").check(bytes("abaab")), "abaab");
    }

    private static void madeCodes() {
        faulty("too full", letters(madeOf(1, 2, 1, 0), "abab").code("11").check(bytes("abab")));
        faulty("not full", letters(madeOf(1, 3, 3, 0), "aaaa").code("101").check(bytes("aaaa")));
        makes("full with four", letters4(madeOf(1, 3, 2, 0)).check(bytes("abba")), "abba");
        faulty("the end has no code", letters(madeOf(1, 2, 0, 0), "abab").check(bytes("abab")));
        Bits bits = zeros(head(Bits.packed(), false, 0, 0), 256);
        told(bits, 1, 0);
        bits.code("0").part(true, 1).fixedText("after").fixed(256);
        makes("the end alone", bits.check(bytes("after")), "after");
        bits = zeros(head(Bits.packed(), false, 0, 0), 256);
        told(bits, 2, 0);
        bits.code("00").part(true, 1).fixedText("after").fixed(256);
        faulty("the end alone with two bits", bits.check(bytes("after")));
        bits = zeros(head(Bits.packed(), true, 0, 0), 256);
        told(bits, 1, 0);
        faulty("no beginning of a code", bits.code("1").number(0, 20).check(bytes("")));
        bits = zeros(head(Bits.packed(), true, 0, 0), 97);
        told(bits, 1);
        zeros(bits, 256 - 98);
        told(bits, 0, 0);
        faulty("a symbol alone, and no end", bits.number(0, 20).check(bytes("")));
        long15();
    }

    /** a has the code 0, the end 10, b 110, the match 111. */
    private static Bits letters4(Bits bits) {
        return bits.code("0").code("110").code("110").code("0").code("10");
    }

    /** Codes of all lengths from 1 to 15. */
    private static void long15() {
        Bits bits = zeros(head(Bits.packed(), true, 0, 0), 97);
        for (int length = 1; length <= 15; length++) {
            told(bits, length);
        }
        zeros(bits, 256 - 97 - 15);
        told(bits, 15, 0);
        StringBuilder made = new StringBuilder();
        for (int i = 0; i < 15; i++) {
            made.append((char) (97 + i));
            bits.code("1".repeat(i) + "0");
        }
        bits.code("1".repeat(15));
        makes("codes of all lengths", bits.check(bytes(made.toString())), made.toString());
    }

    private static void madeSymbols() {
        // a 0, end 10, b 110, match of three 111; one distance alone has the code 0.
        Bits bits = madeOf(1, 3, 2, 0, 1).code("0").code("110").code("111").code("0").code("10");
        makes("one distance alone", bits.check(bytes("ababa")), "ababa");
        bits = madeOf(1, 3, 2, 0, 1).code("0").code("110").code("111").code("1").code("10");
        faulty("one distance alone and another bit", bits.number(0, 20).check(bytes("ababa")));
        bits = madeOf(1, 3, 2, 0, 2).code("0").code("110").code("111").code("00").code("10");
        faulty("one distance alone with two bits", bits.check(bytes("ababa")));
        bits = madeOf(1, 3, 2, 1, 2).code("0").code("110").code("111").code("10").code("10");
        faulty("two distances, not full", bits.check(bytes("ababa")));
        bits = madeOf(1, 3, 2, 1, 2, 2).code("0").code("110").code("111").code("10").code("10");
        makes("three distances", bits.check(bytes("ababa")), "ababa");
        bits = madeOf(1, 3, 2, 1, 1, 1).code("0").code("110").code("111").code("0").code("10");
        faulty("three distances, too full", bits.check(bytes("ababa")));
        bits = madeOf(1, 3, 2, 0).code("0").code("110").code("111").number(0, 30);
        faulty("no distances", bits.check(bytes("ababa")));
    }

    private static Bits matched(int first, int second, int n, int distance) {
        Bits bits = new Bits().number(first, 8).number(second, 8).stored(false, new byte[0]).part(true, 1);
        for (int i = 0; i < n; i++) {
            bits.fixed(65 + i % 3);
        }
        int d = 0;
        for (int k = 0; k < 30; k++) {
            d = Model.distanceBaseAndBits(k)[0] <= distance ? k : d;
        }
        int[] base = Model.distanceBaseAndBits(d);
        return bits.fixed(257).fixedDistance(d).number(distance - base[0], base[1]).fixed(256);
    }

    private static byte[] matchedBytes(int n, int distance) {
        byte[] made = new byte[n + 3];
        for (int i = 0; i < n + 3; i++) {
            made[i] = i < n ? (byte) (65 + i % 3) : made[Math.max(i - distance, 0)];
        }
        return made;
    }

    private static void distances() {
        for (int distance = 1; distance <= 40; distance++) {
            makes("distance " + distance, matched(120, 156, 40, distance).check(matchedBytes(40, distance)),
                    matchedBytes(40, distance));
        }
        for (int distance : new int[] {41, 42, 257, 32768}) {
            faulty("beyond the first byte: " + distance,
                    matched(120, 156, 40, distance).check(matchedBytes(40, distance)));
        }
        faulty("a match before the first byte", matched(120, 156, 0, 1).check(new byte[3]));
        // 8 and 29: 256 * 8 + 29 is 31 * 67, and distances are up to 256; 24 and 25 up to 512.
        makes("256 of 256", matched(8, 29, 300, 256).check(matchedBytes(300, 256)), matchedBytes(300, 256));
        faulty("257 of 256", matched(8, 29, 300, 257).check(matchedBytes(300, 257)));
        makes("257 of 512", matched(24, 25, 300, 257).check(matchedBytes(300, 257)), matchedBytes(300, 257));
    }

    private static void ends() {
        byte[] good = Bits.packed().part(true, 1).fixedText("abcdefghijk").fixed(256).check(bytes("abcdefghijk"));
        makes("good", good, "abcdefghijk");
        for (int i = 1; i <= 4; i++) {
            byte[] other = good.clone();
            other[other.length - i] ^= 1;
            faulty("another check " + i, other);
        }
        faulty("a byte behind the check", Arrays.copyOf(good, good.length + 1));
        faulty("four bytes behind the check", Arrays.copyOf(good, good.length + 4));
        for (int n = good.length - 1; n > 9; n--) {
            faulty("bytes are missing from " + n, Arrays.copyOf(good, n));
        }
        faulty("no last part", Bits.packed().part(false, 1).fixedText("abcdefghijk").fixed(256)
                .check(bytes("abcdefghijk")));
        Bits bits = Bits.packed().part(true, 1).fixedText("abcdefghijk").fixed(256).endByte(1);
        makes("other bits before the check", bits.check(bytes("abcdefghijk")), "abcdefghijk");
    }

    /** A packed row of n bytes of b in a fixed part, behind parts without bytes that make it longer. */
    private static byte[] fixedRun(int b, int n) {
        Bits bits = Bits.packed();
        for (int i = 0; i < 16; i++) {
            bits.stored(false, new byte[0]);
        }
        bits.part(true, 1).fixed(b);
        int left = n - 1;
        for (; left >= 258; left -= 258) {
            bits.fixed(285).fixedDistance(0);
        }
        for (; left > 0; left--) {
            bits.fixed(b);
        }
        byte[] made = new byte[n];
        Arrays.fill(made, (byte) b);
        return bits.fixed(256).check(made);
    }

    /** A fragment must have each file's rest that is read, however little of it, and not more than a block. */
    private static void lengthsOfFragments() {
        for (int n : new int[] {30, 3999, 4000, 4001, 4096}) {
            for (int first = n - 1; first <= Math.min(n + 1, 4000); first++) {
                SharedBlocks x = holding(fixedRun(88, n), 4000, first);
                if (x != null) {
                    Due.same("both files are the largest", x.about(0, 1) + x.about(1, 1), 4000);
                    restIs(x, 0, first <= n);
                    restIs(x, 1, 4000 <= n);
                    restIs(x, 0, first <= n);
                }
            }
        }
        for (int n : new int[] {4097, 4129, 5000}) {
            SharedBlocks x = holding(fixedRun(88, n), 4000, 2000);
            if (x != null) {
                restIs(x, 0, false);
                restIs(x, 1, false);
            }
        }
        byte[] stored = Bits.packed().stored(true, new byte[300]).check(new byte[300]);
        for (int first = 299; first <= 301; first++) {
            SharedBlocks x = holding(stored, 4000, first);
            if (x != null) {
                Due.same("a stored fragment", x.read(0, 0, 1), first <= 300 ? 1 : SharedBlocks.SPOILT);
                Due.same("all of it", x.read(0, 0, 301), first <= 300 ? first : SharedBlocks.SPOILT);
            }
        }
    }

    /** Whether a file that is a rest alone, in a fragment of 88 patched over it, can be read, at whatever place. */
    private static void restIs(SharedBlocks x, int file, boolean good) {
        int n = x.about(file, 1);
        long before = x.out(0);
        int[][] stretches = {{0, 1}, {n - 1, 1}, {n / 2, 1}, {0, n}, {0, n - 1}, {n - 1, 2}, {1, 4096}};
        for (int[] stretch : stretches) {
            int there = Math.min(stretch[1], n - stretch[0]);
            String name = "file " + file + " of " + n + ", " + there + " from " + stretch[0];
            if (n > 0 && there > 0) {
                Due.same(name, x.read(file, stretch[0], stretch[1]), good ? there : SharedBlocks.SPOILT);
                Due.same(name + ": taken", x.taken(), good ? 1 : 0);
                Due.same(name + ": out", x.out(0) & 255, (good ? 88 : before) & 255);
            }
        }
        Due.same("none of it is needed", x.read(file, 0, 0), 0);
        Due.same("it ends there", x.read(file, n, 1), 0);
    }

    /** A fragment of 101 bytes becomes one of 100: those whose rest ends before are read, the others not. */
    private static void restsOfFiles() {
        SharedBlocks x = new SharedBlocks();
        x.fill(0, 0, 9, 4096);
        x.fill(0, 0, 7, 60);
        x.fill(1, 0, 7, 41);
        x.fill(2, 0, 9, 4096);
        x.fill(2, 0, 7, 60);
        x.fill(3, 0, 7, 41);
        x.put(12, true, true);
        int begin = x.fragment(0, 0);
        int[][] patches = {{4, 3}, {7, 138}, {8, 122}, {10, 189}};
        for (int[] patch : patches) {
            x.patch(begin + patch[0], patch[1]);
        }
        for (int file = 0; file < 4; file += 2) {
            Due.same("a block before", x.read(file, 0, 4096), 4096);
            Due.same("block and rest", x.read(file, 4090, 100), 66);
            Due.same("two are taken", x.taken(), 2);
            Due.same("the bytes", x.out(0), 0x0707090909090909L);
            Due.same("the rest", x.read(file, 4096, 4096), 60);
            Due.same("its last byte", x.read(file, 4155, 1), 1);
            Due.same("one is taken", x.taken(), 1);
            Due.same("the byte", x.out(0), 7);
            for (int[] stretch : new int[][] {{0, 1}, {0, 40}, {0, 41}, {39, 1}, {40, 1}, {40, 4096}}) {
                Due.same("the other file from " + stretch[0], x.read(file + 1, stretch[0], stretch[1]),
                        SharedBlocks.SPOILT);
                Due.same("nothing is taken", x.taken(), 0);
                Due.same("the out stays", x.out(0), 7);
            }
            Due.same("no block is needed", x.read(file + 1, 40, 0), 0);
            Due.same("no block is needed behind it", x.read(file + 1, 41, 7), 0);
        }
        x.clear(0);
        x.clear(1);
        Due.same("the rest as it was put", x.read(0, 4096, 1), 1);
        Due.same("the other one too", x.read(1, 0, 1), SharedBlocks.SPOILT);
        x.put(12, true, true);
        Due.same("put anew", x.read(3, 0, 41), 41);
    }

    /** A stored part behind a fixed one of 3871 bytes comes to the bytes that there may be, or to one more. */
    private static void storedTooMuch() {
        for (int n = 224; n <= 227; n++) {
            byte[] made = new byte[3871 + n];
            Arrays.fill(made, (byte) 88);
            Bits bits = Bits.packed().part(false, 1).fixed(88);
            for (int i = 0; i < 15; i++) {
                bits.fixed(285).fixedDistance(0);
            }
            bits.fixed(256).stored(true, Arrays.copyOfRange(made, 3871, made.length));
            byte[] packed = bits.check(made);
            SharedBlocks x = holding(packed, 4000, 4000);
            if (x != null) {
                Due.same("a fragment of " + made.length, x.read(0, 0, 9), n <= 225 ? 9 : SharedBlocks.SPOILT);
            }
            x = holding(packed, 4096, 4096);
            if (x != null) {
                Due.same("a block of " + made.length, x.read(0, 0, 9), n == 225 ? 9 : SharedBlocks.SPOILT);
            }
        }
    }

    /** A block must have just its bytes. */
    private static void lengthsOfBlocks() {
        for (int n : new int[] {1, 4095, 4096, 4097, 4129, 8192}) {
            SharedBlocks x = holding(fixedRun(88, n), 4096, 4096);
            if (x != null) {
                Due.same("a block of " + n, x.read(0, 0, 1), n == 4096 ? 1 : SharedBlocks.SPOILT);
                Due.same("taken", x.taken(), n == 4096 ? 1 : 0);
            }
        }
        byte[] made = new byte[300];
        SharedBlocks x = holding(Bits.packed().stored(true, made).check(made), 4096, 4096);
        if (x != null) {
            Due.same("a stored block of too few bytes", x.read(0, 0, 1), SharedBlocks.SPOILT);
        }
        x = new SharedBlocks();
        x.fill(0, 0, 1, 4396);
        x.put(12, true, false);
        Due.same("a shorter last block", x.read(0, 4096, 400), 300);
        Due.same("its bytes", x.out(37), 0x01010101L);
    }

    /** Each bit of a packed row is turned: as the model reads it. */
    private static void everyBit() {
        byte[] text = bytes("she sells sea shells by the sea shore; the shells she sells are sea shells. ");
        SharedBlocks x = new SharedBlocks();
        for (int turn = 0; turn < 8; turn++) {
            x = new SharedBlocks();
            for (int i = 0; i < text.length; i += 4) {
                long bytes = 0;
                for (int k = 3; k >= 0; k--) {
                    bytes = bytes << 8 | text[i + k];
                }
                x.feed(bytes, 4);
            }
            x.write(0, 1);
            int n = x.put(12, true, true);
            byte[] packed = new byte[n];
            for (int i = 0; i < n; i++) {
                packed[i] = (byte) (x.word(i / 8) >>> 8 * (i % 8));
            }
            for (int i = 0; i < n; i++) {
                byte[] other = packed.clone();
                other[i] ^= (byte) (1 << turn);
                x.patch(i, other[i]);
                int due = SharedBlocks.SPOILT;
                try {
                    due = Model.unpack(other, 4096).length < text.length ? SharedBlocks.SPOILT : text.length;
                } catch (Model.Fault fault) {
                    due = SharedBlocks.SPOILT;
                }
                Due.same("bit " + turn + " of byte " + i + " turned", x.read(0, 0, text.length), due);
                x.patch(i, packed[i]);
            }
            Due.same("turned back", x.read(0, 0, text.length), text.length);
        }
    }

    /** Rows that another packer made are read. */
    private static void foreignRows() {
        Random random = new Random(3);
        for (int run = 0; run < 60; run++) {
            byte[] data = new byte[200 + random.nextInt(3800)];
            for (int i = 0; i < data.length; i++) {
                int back = 1 + random.nextInt(90);
                data[i] = i > 90 && random.nextInt(7) > 0 ? data[i - back / 10 - 1] : (byte) (random.nextInt(64) & back);
            }
            Deflater deflater = new Deflater(1 + run % 9);
            deflater.setStrategy(run % 3 == 0 ? Deflater.HUFFMAN_ONLY : Deflater.DEFAULT_STRATEGY);
            deflater.setInput(data, 0, Math.min(data.length, run % 3 == 0 ? 300 : 600));
            deflater.finish();
            byte[] packed = new byte[8192];
            int n = 0;
            for (int i = 0; i < 9 && !deflater.finished(); i++) {
                n += deflater.deflate(packed, n, packed.length - n);
            }
            deflater.end();
            if (n < 400) {
                byte[] made = Arrays.copyOf(data, Math.min(data.length, run % 3 == 0 ? 300 : 600));
                makes("foreign " + run, Arrays.copyOf(packed, n), made);
            }
        }
    }
}
