import java.io.ByteArrayOutputStream;
import java.util.ArrayList;
import java.util.Arrays;
import java.util.HashMap;
import java.util.List;
import java.util.Map;

/** The document once more, written as slowly and as near to its words as can be; the tests compare with it. */
final class Model {
    static final int BAD = -1, NONE = -2, FULL = -3, SPOILT = -4;

    /** A fault of a packed row. */
    static final class Fault extends Exception {
        private static final long serialVersionUID = 1;

        Fault(String what) {
            super(what);
        }
    }

    private static final class Placed {
        int size;
        int begin;
        List<Integer> numbers = new ArrayList<>();
        int fragment = NONE;
        int offset;
        int zeros;
    }

    /** How often what is rare came, for a look at what the tests reach. */
    static final int[] seenSorts = new int[3];
    static int deepestCode = 0;
    /** How often a stored part took as many bits as the best other one, one more, and a fixed one likewise. */
    static final int[] seenTies = new int[4];
    /** How many bits the latest part takes by each sort, but for its first three. */
    static int[] latestBits = {};

    private final byte[][] files = new byte[64][0];
    private byte[] tape = new byte[0];
    private byte[] row = new byte[0];
    private byte[] out = new byte[0];
    private Placed[] placed = new Placed[64];
    private List<int[]> fragments = new ArrayList<>();
    private int block = 4096;
    private int taken = 0;

    Model() {
        for (int f = 0; f < 64; f++) {
            placed[f] = new Placed();
        }
    }

    private static byte[] join(byte[] one, byte[] other) {
        byte[] both = Arrays.copyOf(one, one.length + other.length);
        System.arraycopy(other, 0, both, one.length, other.length);
        return both;
    }

    private int all() {
        int n = 0;
        for (byte[] file : files) {
            n += file.length;
        }
        return n;
    }

    int feed(long bytes, int n) {
        if (n < 1 || n > 8) {
            return BAD;
        }
        if (tape.length + n > 1024) {
            return FULL;
        }
        byte[] more = new byte[n];
        for (int i = 0; i < n; i++) {
            more[i] = (byte) (bytes >> (8 * i));
        }
        tape = join(tape, more);
        return tape.length;
    }

    int write(int file, int times) {
        byte[] data = tape;
        tape = new byte[0];
        if (file < 0 || file > 63 || times < 1 || times > 64) {
            return BAD;
        }
        if (all() + data.length * times > 65536) {
            return FULL;
        }
        for (int i = 0; i < times; i++) {
            files[file] = join(files[file], data);
        }
        return files[file].length;
    }

    int fill(int file, int kind, int b, int n) {
        if (file < 0 || file > 63 || kind < 0 || kind > 1 || n < 1 || n > 65536) {
            return BAD;
        }
        if (all() + n > 65536) {
            return FULL;
        }
        byte[] data = new byte[n];
        int x = b;
        for (int i = 0; i < n; i++) {
            x = 1103515245 * x + 12345;
            data[i] = kind == 0 ? (byte) b : (byte) ((x & 0xff0000) / 0x10000);
        }
        files[file] = join(files[file], data);
        return files[file].length;
    }

    int clear(int file) {
        if (file < 0 || file > 63) {
            return BAD;
        }
        int n = files[file].length;
        files[file] = new byte[0];
        return n;
    }

    private int append(ByteArrayOutputStream to, byte[] data, boolean packing) {
        byte[] packed = packing ? pack(data) : data;
        if (packing && packed.length < data.length) {
            to.writeBytes(packed);
            return packed.length;
        }
        to.writeBytes(data);
        return data.length + 16777216;
    }

    int put(int log, boolean packing, boolean withFragments) {
        if (log < 12 || log > 16) {
            return BAD;
        }
        int size = 1 << log;
        ByteArrayOutputStream to = new ByteArrayOutputStream();
        Placed[] all = new Placed[64];
        List<int[]> closed = new ArrayList<>();
        byte[] open = new byte[0];
        for (int f = 0; f < 64; f++) {
            all[f] = new Placed();
            int twin = -1;
            for (int g = f - 1; g >= 0; g--) {
                if (files[f].length > 0 && Arrays.equals(files[f], files[g])) {
                    twin = g;
                }
            }
            if (twin >= 0) {
                all[f] = all[twin];
                continue;
            }
            all[f].size = files[f].length;
            int at = 0;
            while (at < files[f].length) {
                int end = Math.min(at + size, files[f].length);
                byte[] data = Arrays.copyOfRange(files[f], at, end);
                if (withFragments && data.length < size) {
                    if (open.length + data.length > size) {
                        int begin = to.size();
                        closed.add(new int[] {begin, append(to, open, packing)});
                        open = new byte[0];
                    }
                    all[f].fragment = closed.size();
                    all[f].offset = open.length;
                    open = join(open, data);
                } else {
                    if (at == 0) {
                        all[f].begin = to.size();
                    }
                    if (Arrays.equals(data, new byte[data.length])) {
                        all[f].numbers.add(0);
                        all[f].zeros += data.length;
                    } else {
                        all[f].numbers.add(append(to, data, packing));
                    }
                }
                at = end;
            }
        }
        if (open.length > 0) {
            int begin = to.size();
            closed.add(new int[] {begin, append(to, open, packing)});
        }
        if (to.size() > 131072) {
            return FULL;
        }
        row = to.toByteArray();
        placed = all;
        fragments = closed;
        block = size;
        return row.length;
    }

    int about(int file, int what) {
        if (file < 0 || file > 63 || what < 0 || what > 6) {
            return BAD;
        }
        Placed it = placed[file];
        int[] facts = {files[file].length, it.size, it.begin, it.numbers.size(), it.fragment, it.offset, it.zeros};
        return facts[what];
    }

    int number(int file, int i) {
        if (file < 0 || file > 63) {
            return BAD;
        }
        return i < 0 || i >= placed[file].numbers.size() ? NONE : placed[file].numbers.get(i);
    }

    int fragments() {
        return fragments.size();
    }

    int fragment(int i, int what) {
        if (what != 0 && what != 1) {
            return BAD;
        }
        return i < 0 || i >= fragments.size() ? NONE : fragments.get(i)[what];
    }

    int size() {
        return row.length;
    }

    private static long eight(byte[] bytes, int i) {
        long eight = 0;
        for (int k = 0; k < 8; k++) {
            long at = 8L * i + k;
            if (i >= 0 && at < bytes.length) {
                eight += (bytes[(int) at] & 255L) << 8 * k;
            }
        }
        return eight;
    }

    long word(int i) {
        return eight(row, i);
    }

    int patch(int i, int b) {
        if (i < 0 || i >= row.length) {
            return NONE;
        }
        int old = row[i] & 255;
        row[i] = (byte) b;
        return old;
    }

    int cut(int n) {
        if (n < 0 || n > row.length) {
            return BAD;
        }
        int gone = row.length - n;
        row = Arrays.copyOf(row, n);
        return gone;
    }

    /** The bytes of a block from the row. */
    private byte[] block(int begin, int number, int most) throws Fault {
        int n = number % 16777216;
        if (begin + n > row.length) {
            throw new Fault("not in the row as a whole");
        }
        byte[] data = Arrays.copyOfRange(row, begin, begin + n);
        return number >= 16777216 ? data : unpack(data, most);
    }

    int read(int file, int from, int n) {
        taken = 0;
        if (file < 0 || file > 63 || from < 0 || n < 0 || n > 4096) {
            return BAD;
        }
        Placed it = placed[file];
        byte[] stretch = new byte[0];
        int used = 0;
        try {
            int place = it.begin;
            int start = 0;
            for (int number : it.numbers) {
                int whole = Math.min(block, it.size - start);
                int a = Math.max(from, start);
                int b = (int) Math.min((long) from + n, start + whole);
                if (a < b) {
                    byte[] data = number == 0 ? new byte[whole] : block(place, number, whole);
                    if (data.length != whole) {
                        throw new Fault("not just what it must have");
                    }
                    used += number == 0 ? 0 : 1;
                    stretch = join(stretch, Arrays.copyOfRange(data, a - start, b - start));
                }
                place += number % 16777216;
                start += whole;
            }
            int a = Math.max(from, start);
            int b = (int) Math.min((long) from + n, it.size);
            if (a < b) {
                int[] fragment = fragments.get(it.fragment);
                byte[] data = block(fragment[0], fragment[1], block);
                if (data.length < it.offset + it.size - start) {
                    throw new Fault("less than the file's rest");
                }
                used++;
                stretch = join(stretch, Arrays.copyOfRange(data, it.offset + a - start, it.offset + b - start));
            }
        } catch (Fault fault) {
            return SPOILT;
        }
        taken = used;
        out = stretch;
        return out.length;
    }

    long out(int i) {
        return eight(out, i);
    }

    int taken() {
        return taken;
    }

    // ---- packing ----

    private static final class Item {
        final int count;
        final int symbol;
        final Item one;
        final Item other;

        Item(int count, int symbol, Item one, Item other) {
            this.count = count;
            this.symbol = symbol;
            this.one = one;
            this.other = other;
        }

        void take(int[] lengths) {
            if (symbol >= 0) {
                lengths[symbol]++;
            } else {
                one.take(lengths);
                other.take(lengths);
            }
        }
    }

    static int[] lengths(int[] counts, int limit) {
        int[] lengths = new int[counts.length];
        List<Item> first = new ArrayList<>();
        for (int s = 0; s < counts.length; s++) {
            if (counts[s] > 0) {
                first.add(new Item(counts[s], s, null, null));
            }
        }
        first.sort((x, y) -> Integer.compare(x.count, y.count));
        if (first.size() == 1) {
            lengths[first.get(0).symbol] = 1;
        }
        if (first.size() < 2) {
            return lengths;
        }
        List<Item> list = first;
        for (int k = 1; k < limit; k++) {
            List<Item> next = new ArrayList<>(first);
            for (int i = 0; i + 1 < list.size(); i += 2) {
                next.add(new Item(list.get(i).count + list.get(i + 1).count, -1, list.get(i), list.get(i + 1)));
            }
            next.sort((x, y) -> Integer.compare(x.count, y.count));
            list = next;
        }
        for (int i = 0; i < 2 * first.size() - 2; i++) {
            list.get(i).take(lengths);
        }
        return lengths;
    }

    /** The codes of some lengths, as texts of 0 and 1. */
    static String[] codes(int[] lengths) {
        String[] codes = new String[lengths.length];
        int next = 0;
        for (int length = 1; length <= 15; length++) {
            next = 2 * next;
            for (int s = 0; s < lengths.length; s++) {
                if (lengths[s] == length) {
                    String code = Integer.toBinaryString(next);
                    while (code.length() < length) {
                        code = "0" + code;
                    }
                    codes[s] = code;
                    next++;
                }
            }
        }
        return codes;
    }

    static int[] fixedLengths() {
        int[] lengths = new int[288];
        for (int s = 0; s < 288; s++) {
            lengths[s] = s <= 143 ? 8 : s <= 255 ? 9 : s <= 279 ? 7 : 8;
        }
        return lengths;
    }

    static int[] fixedDistances() {
        int[] lengths = new int[32];
        Arrays.fill(lengths, 5);
        return lengths;
    }

    static int[] lengthBaseAndBits(int s) {
        if (s <= 264) {
            return new int[] {s - 254, 0};
        }
        if (s == 285) {
            return new int[] {258, 0};
        }
        int e = (s - 261) / 4;
        return new int[] {3 + ((4 + (s - 261) % 4) << e), e};
    }

    static int[] distanceBaseAndBits(int d) {
        if (d <= 3) {
            return new int[] {d + 1, 0};
        }
        int e = d / 2 - 1;
        return new int[] {1 + ((2 + d % 2) << e), e};
    }

    private static int symbolFor(int length) {
        int best = 257;
        for (int s = 257; s <= 285; s++) {
            if (lengthBaseAndBits(s)[0] <= length) {
                best = s;
            }
        }
        return best;
    }

    private static int distanceFor(int distance) {
        int best = 0;
        for (int d = 0; d <= 29; d++) {
            if (distanceBaseAndBits(d)[0] <= distance) {
                best = d;
            }
        }
        return best;
    }

    /** The parts' items: {byte} or {length, distance}. */
    private static List<int[]> items(byte[] data, int from, int to) {
        List<int[]> items = new ArrayList<>();
        int p = from;
        while (p < to) {
            int bestLength = 0;
            int bestPlace = 0;
            int candidates = 0;
            for (int q = p - 1; q >= 0 && p - q <= 32768 && candidates < 16 && p + 3 <= to; q--) {
                if (data[q] != data[p] || data[q + 1] != data[p + 1] || data[q + 2] != data[p + 2]) {
                    continue;
                }
                candidates++;
                int length = 0;
                while (length < 258 && p + length < to && data[q + length] == data[p + length]) {
                    length++;
                }
                if (length > bestLength) {
                    bestLength = length;
                    bestPlace = q;
                }
            }
            if (bestLength == 0) {
                items.add(new int[] {data[p] & 255});
                p++;
            } else {
                items.add(new int[] {bestLength, p - bestPlace});
                p += bestLength;
            }
        }
        return items;
    }

    /** A row of lengths as it is told: {symbol, number, bits}. */
    private static List<int[]> told(int[] lengths) {
        List<int[]> told = new ArrayList<>();
        int i = 0;
        while (i < lengths.length) {
            int n = 1;
            while (i + n < lengths.length && lengths[i + n] == lengths[i]) {
                n++;
            }
            int left = n;
            if (lengths[i] == 0) {
                while (left >= 11) {
                    int times = Math.min(left, 138);
                    told.add(new int[] {18, times - 11, 7});
                    left -= times;
                }
                if (left >= 3) {
                    told.add(new int[] {17, left - 3, 3});
                    left = 0;
                }
            } else {
                told.add(new int[] {lengths[i], 0, 0});
                left--;
                while (left >= 3) {
                    int times = Math.min(left, 6);
                    told.add(new int[] {16, times - 3, 2});
                    left -= times;
                }
            }
            for (; left > 0; left--) {
                told.add(new int[] {lengths[i], 0, 0});
            }
            i += n;
        }
        return told;
    }

    private static int[] upToLast(int[] lengths, int least) {
        int n = lengths.length;
        while (n > least && lengths[n - 1] == 0) {
            n--;
        }
        return Arrays.copyOf(lengths, n);
    }

    private static String low(int value, int bits) {
        StringBuilder text = new StringBuilder();
        for (int i = 0; i < bits; i++) {
            text.append(value >> i & 1);
        }
        return text.toString();
    }

    private static final int[] ORDER = {16, 17, 18, 0, 8, 7, 9, 6, 10, 5, 11, 4, 12, 3, 13, 2, 14, 1, 15};

    private static String symbolsText(List<int[]> items, String[] symbols, String[] distances) {
        StringBuilder text = new StringBuilder();
        for (int[] item : items) {
            if (item.length == 1) {
                text.append(symbols[item[0]]);
                continue;
            }
            int s = symbolFor(item[0]);
            int d = distanceFor(item[1]);
            text.append(symbols[s]).append(low(item[0] - lengthBaseAndBits(s)[0], lengthBaseAndBits(s)[1]));
            text.append(distances[d]).append(low(item[1] - distanceBaseAndBits(d)[0], distanceBaseAndBits(d)[1]));
        }
        return text.append(symbols[256]).toString();
    }

    /** A made part behind its first three bits. */
    private static String madeText(List<int[]> items) {
        int[] counts = new int[286];
        int[] distanceCounts = new int[30];
        counts[256] = 1;
        for (int[] item : items) {
            counts[item.length == 1 ? item[0] : symbolFor(item[0])]++;
            if (item.length == 2) {
                distanceCounts[distanceFor(item[1])]++;
            }
        }
        int[] lengths = lengths(counts, 15);
        int[] distanceLengths = lengths(distanceCounts, 15);
        int[] toldSymbols = upToLast(lengths, 257);
        int[] toldDistances = upToLast(distanceLengths, 1);
        int[] both = Arrays.copyOf(toldSymbols, toldSymbols.length + toldDistances.length);
        System.arraycopy(toldDistances, 0, both, toldSymbols.length, toldDistances.length);
        List<int[]> told = told(both);
        int[] sizeCounts = new int[19];
        for (int[] each : told) {
            sizeCounts[each[0]]++;
        }
        int[] sizes = lengths(sizeCounts, 7);
        for (int length : lengths) {
            deepestCode = Math.max(deepestCode, length);
        }
        int c = 19;
        while (c > 4 && sizes[ORDER[c - 1]] == 0) {
            c--;
        }
        StringBuilder text = new StringBuilder();
        text.append(low(toldSymbols.length - 257, 5)).append(low(toldDistances.length - 1, 5)).append(low(c - 4, 4));
        for (int i = 0; i < c; i++) {
            text.append(low(sizes[ORDER[i]], 3));
        }
        String[] sizeCodes = codes(sizes);
        for (int[] each : told) {
            text.append(sizeCodes[each[0]]).append(low(each[1], each[2]));
        }
        return text.append(symbolsText(items, codes(lengths), codes(distanceLengths))).toString();
    }

    static byte[] pack(byte[] data) {
        StringBuilder text = new StringBuilder(low(120, 8) + low(156, 8));
        for (int at = 0; at < data.length; at += 4096) {
            int end = Math.min(at + 4096, data.length);
            List<int[]> items = items(data, at, end);
            String fixed = symbolsText(items, codes(fixedLengths()), codes(fixedDistances()));
            String made = madeText(items);
            StringBuilder stored = new StringBuilder();
            while ((text.length() + 3 + stored.length()) % 8 != 0) {
                stored.append('0');
            }
            stored.append(low(end - at, 16)).append(low(65535 - (end - at), 16));
            for (int i = at; i < end; i++) {
                stored.append(low(data[i], 8));
            }
            int sort = fixed.length() <= made.length() ? 1 : 2;
            if (stored.length() <= Math.min(fixed.length(), made.length())) {
                sort = 0;
            }
            seenSorts[sort]++;
            latestBits = new int[] {stored.length(), fixed.length(), made.length()};
            int overOthers = stored.length() - Math.min(fixed.length(), made.length());
            int overMade = fixed.length() - made.length();
            seenTies[0] += overOthers == 0 ? 1 : 0;
            seenTies[1] += overOthers == 1 ? 1 : 0;
            seenTies[2] += overMade == 0 && sort > 0 ? 1 : 0;
            seenTies[3] += overMade == 1 && sort > 0 ? 1 : 0;
            text.append(end == data.length ? '1' : '0').append(low(sort, 2));
            text.append(sort == 0 ? stored : sort == 1 ? fixed : made);
        }
        while (text.length() % 8 != 0) {
            text.append('0');
        }
        int check = Bits.adler(data);
        for (int shift = 24; shift >= 0; shift -= 8) {
            text.append(low(check >>> shift, 8));
        }
        byte[] packed = new byte[text.length() / 8];
        for (int i = 0; i < text.length(); i++) {
            packed[i / 8] |= (byte) (text.charAt(i) - '0' << i % 8);
        }
        return packed;
    }

    // ---- unpacking ----

    private static final class Reader {
        final byte[] data;
        int at = 0;

        Reader(byte[] data) {
            this.data = data;
        }

        int bit() throws Fault {
            if (at >= 8 * data.length) {
                throw new Fault("bits are missing");
            }
            int bit = data[at / 8] >> at % 8 & 1;
            at++;
            return bit;
        }

        int number(int bits) throws Fault {
            int value = 0;
            for (int i = 0; i < bits; i++) {
                value += bit() << i;
            }
            return value;
        }

        void endByte() throws Fault {
            while (at % 8 != 0) {
                bit();
            }
        }

        int symbol(Map<String, Integer> codes) throws Fault {
            String code = "";
            while (code.length() < 15) {
                code += bit();
                Integer symbol = codes.get(code);
                if (symbol != null) {
                    return symbol;
                }
            }
            throw new Fault("bits that are no beginning of a code");
        }
    }

    private static Map<String, Integer> codeMap(int[] lengths, boolean noneToo) throws Fault {
        long sum = 0;
        int used = 0;
        boolean one = false;
        for (int length : lengths) {
            if (length > 0) {
                sum += 32768 >> length;
                used++;
                one = length == 1;
            }
        }
        if (sum != 32768 && !(used == 1 && one) && !(used == 0 && noneToo)) {
            throw new Fault("lengths that make no codes");
        }
        Map<String, Integer> map = new HashMap<>();
        String[] codes = codes(lengths);
        for (int s = 0; s < codes.length; s++) {
            if (codes[s] != null) {
                map.put(codes[s], s);
            }
        }
        return map;
    }

    static byte[] unpack(byte[] packed, int most) throws Fault {
        Reader reader = new Reader(packed);
        int x = reader.number(8);
        int y = reader.number(8);
        if ((256 * x + y) % 31 != 0 || x % 16 != 8 || x / 16 > 7 || (y & 32) != 0) {
            throw new Fault("the first two bytes");
        }
        ByteArrayOutputStream made = new ByteArrayOutputStream();
        boolean last = false;
        while (!last) {
            last = reader.bit() == 1;
            int sort = reader.number(2);
            if (sort == 0) {
                reader.endByte();
                int n = reader.number(16);
                if (reader.number(16) != 65535 - n) {
                    throw new Fault("the two numbers of a stored part");
                }
                for (int i = 0; i < n; i++) {
                    made.write(reader.number(8));
                }
            } else if (sort == 1) {
                symbols(reader, codeMap(fixedLengths(), false), codeMap(fixedDistances(), false), made, x, most);
            } else if (sort == 2) {
                madePart(reader, made, x, most);
            } else {
                throw new Fault("the sort is 3");
            }
            if (made.size() > most) {
                throw new Fault("more bytes than there may be");
            }
        }
        reader.endByte();
        int check = 0;
        for (int i = 0; i < 4; i++) {
            check = 256 * check + reader.number(8);
        }
        if (reader.at != 8 * packed.length) {
            throw new Fault("bytes are left behind the check");
        }
        if (check != Bits.adler(made.toByteArray())) {
            throw new Fault("another check");
        }
        return made.toByteArray();
    }

    private static void madePart(Reader reader, ByteArrayOutputStream made, int x, int most) throws Fault {
        int h = reader.number(5);
        int d = reader.number(5);
        int c = reader.number(4);
        if (h > 29 || d > 29) {
            throw new Fault("h or d above 29");
        }
        int[] sizes = new int[19];
        for (int i = 0; i < c + 4; i++) {
            sizes[ORDER[i]] = reader.number(3);
        }
        Map<String, Integer> sizeCodes = codeMap(sizes, false);
        List<Integer> row = new ArrayList<>();
        int all = h + 257 + d + 1;
        while (row.size() < all) {
            int s = reader.symbol(sizeCodes);
            if (s < 16) {
                row.add(s);
                continue;
            }
            if (s == 16 && row.isEmpty()) {
                throw new Fault("a 16 without a length before");
            }
            int length = s == 16 ? row.get(row.size() - 1) : 0;
            int times = s == 16 ? 3 + reader.number(2) : s == 17 ? 3 + reader.number(3) : 11 + reader.number(7);
            for (int i = 0; i < times; i++) {
                row.add(length);
            }
        }
        if (row.size() > all) {
            throw new Fault("more lengths than there are to be");
        }
        int[] symbols = new int[h + 257];
        int[] distances = new int[d + 1];
        for (int i = 0; i < all; i++) {
            if (i < symbols.length) {
                symbols[i] = row.get(i);
            } else {
                distances[i - symbols.length] = row.get(i);
            }
        }
        if (symbols[256] == 0) {
            throw new Fault("256 has no code");
        }
        symbols(reader, codeMap(symbols, false), codeMap(distances, true), made, x, most);
    }

    private static void symbols(Reader reader, Map<String, Integer> symbols, Map<String, Integer> distances,
            ByteArrayOutputStream made, int x, int most) throws Fault {
        while (true) {
            int s = reader.symbol(symbols);
            if (s == 256) {
                return;
            }
            if (s > 285) {
                throw new Fault("a symbol above 285");
            }
            if (s < 256) {
                made.write(s);
            } else {
                int length = lengthBaseAndBits(s)[0] + reader.number(lengthBaseAndBits(s)[1]);
                int d = reader.symbol(distances);
                if (d > 29) {
                    throw new Fault("a distance above 29");
                }
                int distance = distanceBaseAndBits(d)[0] + reader.number(distanceBaseAndBits(d)[1]);
                if (distance > made.size() || distance > 256 << x / 16) {
                    throw new Fault("too far");
                }
                byte[] before = made.toByteArray();
                for (int i = 0; i < length; i++) {
                    made.write(before[before.length - distance + i % distance]);
                }
            }
            if (made.size() > most) {
                throw new Fault("more bytes than there may be");
            }
        }
    }
}
