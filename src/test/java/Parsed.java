import java.util.ArrayList;
import java.util.HashMap;
import java.util.List;
import java.util.Map;

/** A packed row without a fault taken apart: its parts, and what each of them is made of. */
final class Parsed {
    final List<Part> parts = new ArrayList<>();
    /** The bits behind the last part, up to the end of a byte, and how many they are. */
    final int lastBits;
    final int lastBitCount;
    final int check;
    private final byte[] row;
    private int at = 16;

    static final class Part {
        boolean last;
        int sort;
        /** Where its first bit is, and how many bits it takes. */
        int begin;
        int bits;
        int h;
        int d;
        int c;
        /** How many bits of those up to the end of a byte are 1, in a stored part. */
        int padding;
        int[] sizes = {};
        /** The row of lengths as it is told: {one of the 19, the number behind it}. */
        final List<int[]> told = new ArrayList<>();
        int[] symbols = {};
        int[] distances = {};
        /** {byte}, or {length, distance}; of a stored part all bytes. */
        final List<int[]> items = new ArrayList<>();
        final List<Integer> lengthSymbols = new ArrayList<>();
        final List<Integer> distanceSymbols = new ArrayList<>();
        int count;

        /** Items with blanks between: a byte as its character or number, a match as length<distance. */
        String text() {
            StringBuilder text = new StringBuilder();
            for (int[] item : items) {
                text.append(text.length() > 0 ? " " : "");
                if (item.length == 2) {
                    text.append(item[0]).append('<').append(item[1]);
                } else if (item[0] > 32 && item[0] < 127) {
                    text.append((char) item[0]);
                } else {
                    text.append(item[0]);
                }
            }
            return text.toString();
        }

        int[] symbolCounts() {
            int[] counts = new int[286];
            for (int[] item : items) {
                counts[item.length == 1 ? item[0] : 0] += item.length == 1 ? 1 : 0;
            }
            for (int s : lengthSymbols) {
                counts[s]++;
            }
            counts[256]++;
            return counts;
        }

        int[] distanceCounts() {
            int[] counts = new int[30];
            for (int d : distanceSymbols) {
                counts[d]++;
            }
            return counts;
        }
    }

    Parsed(byte[] row) {
        this.row = row;
        boolean last = false;
        while (!last) {
            Part part = new Part();
            part.begin = at;
            part.last = number(1) == 1;
            last = part.last;
            part.sort = number(2);
            if (part.sort == 0) {
                stored(part);
            } else {
                codes(part);
                symbols(part);
            }
            part.bits = at - part.begin;
            parts.add(part);
        }
        lastBitCount = -at & 7;
        lastBits = number(lastBitCount);
        int sum = 0;
        for (int i = 0; i < 4; i++) {
            sum = sum << 8 | number(8);
        }
        check = sum;
        Due.same("the row ends behind the check", at, 8 * row.length);
    }

    /** The one block of a file, packed; it must be shorter so. */
    static Parsed of(Recipe recipe) {
        byte[] row = recipe.row(16, true, false);
        boolean packed = row.length < recipe.count();
        Due.holds(recipe.count() + " bytes are packed", packed);
        return new Parsed(packed ? row : Model.pack(recipe.all()));
    }

    /** All parts' items. */
    String text() {
        StringBuilder text = new StringBuilder();
        for (Part part : parts) {
            text.append(text.length() > 0 ? " | " : "").append(part.text());
        }
        return text.toString();
    }

    private int number(int k) {
        int value = 0;
        for (int i = 0; i < k; i++) {
            value |= (row[at / 8] >> at % 8 & 1) << i;
            at++;
        }
        return value;
    }

    private static Map<String, Integer> byCode(int[] lengths) {
        String[] codes = Model.codes(lengths);
        Map<String, Integer> map = new HashMap<>();
        for (int s = 0; s < codes.length; s++) {
            if (codes[s] != null) {
                map.put(codes[s], s);
            }
        }
        return map;
    }

    private int symbol(Map<String, Integer> codes) {
        StringBuilder code = new StringBuilder();
        while (code.length() < 16) {
            Integer symbol = codes.get(code.append(number(1)).toString());
            if (symbol != null) {
                return symbol;
            }
        }
        throw new IllegalStateException("no code");
    }

    private void stored(Part part) {
        part.padding = Integer.bitCount(number(-at & 7));
        part.count = number(16);
        Due.same("the two numbers of a stored part", number(16), 65535 - part.count);
        for (int i = 0; i < part.count; i++) {
            part.items.add(new int[] {number(8)});
        }
    }

    private void codes(Part part) {
        if (part.sort == 1) {
            part.symbols = Model.fixedLengths();
            part.distances = Model.fixedDistances();
            return;
        }
        part.h = number(5);
        part.d = number(5);
        part.c = number(4);
        part.sizes = new int[19];
        for (int i = 0; i < part.c + 4; i++) {
            part.sizes[Made.ORDER[i]] = number(3);
        }
        part.symbols = new int[part.h + 257];
        part.distances = new int[part.d + 1];
        Map<String, Integer> codes = byCode(part.sizes);
        int all = part.symbols.length + part.distances.length;
        int before = 0;
        for (int i = 0; i < all;) {
            int s = symbol(codes);
            int more = number(s == 16 ? 2 : s == 17 ? 3 : s == 18 ? 7 : 0);
            part.told.add(new int[] {s, more});
            int length = s < 16 ? s : s == 16 ? before : 0;
            for (int n = s < 16 ? 1 : s < 18 ? 3 + more : 11 + more; n > 0; n--) {
                if (i < part.symbols.length) {
                    part.symbols[i] = length;
                } else {
                    part.distances[i - part.symbols.length] = length;
                }
                i++;
            }
            before = length;
        }
    }

    private void symbols(Part part) {
        Map<String, Integer> symbols = byCode(part.symbols);
        Map<String, Integer> distances = byCode(part.distances);
        for (int s = symbol(symbols); s != 256; s = symbol(symbols)) {
            if (s < 256) {
                part.items.add(new int[] {s});
                part.count++;
                continue;
            }
            int[] length = Model.lengthBaseAndBits(s);
            int n = length[0] + number(length[1]);
            int d = symbol(distances);
            int[] distance = Model.distanceBaseAndBits(d);
            part.items.add(new int[] {n, distance[0] + number(distance[1])});
            part.lengthSymbols.add(s);
            part.distanceSymbols.add(d);
            part.count += n;
        }
    }
}
