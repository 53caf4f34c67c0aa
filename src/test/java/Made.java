/** A made part written bit by bit: its lengths are told one by one, its symbols by their codes. */
final class Made {
    static final int[] ORDER = {16, 17, 18, 0, 8, 7, 9, 6, 10, 5, 11, 4, 12, 3, 13, 2, 14, 1, 15};

    private final Bits bits;
    private final String[] symbols;
    private final String[] distances;

    Made(Bits bits, boolean last, int[] symbolLengths, int[] distanceLengths) {
        this.bits = bits;
        symbols = Model.codes(symbolLengths);
        distances = Model.codes(distanceLengths);
        head(bits, last, symbolLengths.length - 257, distanceLengths.length - 1);
        tellAll(bits, symbolLengths);
        tellAll(bits, distanceLengths);
    }

    /** Lengths of n codes, 0 but for the symbols said: {symbol, length, symbol, length, ..}. */
    static int[] lengths(int n, int... pairs) {
        int[] lengths = new int[n];
        for (int i = 0; i < pairs.length; i += 2) {
            lengths[pairs[i]] = pairs[i + 1];
        }
        return lengths;
    }

    /** The lengths of the codes for the 19: 4 for 0 .. 12, 5 for the others. */
    static int[] sizes() {
        int[] sizes = new int[19];
        for (int s = 0; s < 19; s++) {
            sizes[s] = s < 13 ? 4 : 5;
        }
        return sizes;
    }

    /** A part's beginning, up to the lengths of the codes for the 19. */
    static Bits head(Bits bits, boolean last, int h, int d) {
        bits.part(last, 2).number(h, 5).number(d, 5).number(15, 4);
        int[] sizes = sizes();
        for (int s : ORDER) {
            bits.number(sizes[s], 3);
        }
        return bits;
    }

    /** Some of the 19, by the codes of sizes(). */
    static Bits told(Bits bits, int... told) {
        String[] codes = Model.codes(sizes());
        for (int each : told) {
            bits.code(codes[each]);
        }
        return bits;
    }

    static Bits zeros(Bits bits, int n) {
        int left = n;
        for (; left >= 11; left -= Math.min(left, 138)) {
            told(bits, 18).number(Math.min(left, 138) - 11, 7);
        }
        for (; left > 0; left--) {
            told(bits, 0);
        }
        return bits;
    }

    private static void tellAll(Bits bits, int[] lengths) {
        int zeros = 0;
        for (int length : lengths) {
            if (length == 0) {
                zeros++;
            } else {
                told(zeros(bits, zeros), length);
                zeros = 0;
            }
        }
        zeros(bits, zeros);
    }

    Made symbol(int s) {
        bits.code(symbols[s]);
        return this;
    }

    Made text(String text) {
        for (int i = 0; i < text.length(); i++) {
            symbol(text.charAt(i));
        }
        return this;
    }

    /** A distance, and so many bits more. */
    Made distance(int d, int more, int moreBits) {
        bits.code(distances[d]).number(more, moreBits);
        return this;
    }

    Made number(int value, int k) {
        bits.number(value, k);
        return this;
    }

    Made code(String code) {
        bits.code(code);
        return this;
    }

    Bits end() {
        return symbol(256).bits;
    }

    Bits bits() {
        return bits;
    }
}
