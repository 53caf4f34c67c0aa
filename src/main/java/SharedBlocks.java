/**
 * The data of a compressed file system for reading only: files are cut in blocks, rests of them come together in
 * fragments, and any stretch of a file is read back. The promises that it keeps stand in DOC.md.
 */
public final class SharedBlocks {
    public static final int BAD = -1, NONE = -2, FULL = -3, SPOILT = -4;

    private static final int FILES = 64;
    private static final int MOST_BYTES = 65536;
    private static final int MOST_TAPE = 1024;
    private static final int MOST_TIMES = 64;
    private static final int MOST_ROW = 131072;
    private static final int MOST_OUT = 4096;
    private static final int LEAST_LOG = 12, MOST_LOG = 16;
    /** What the number of a block has more when the block stands in the row as it is. */
    private static final int AS_IT_IS = 16777216;

    /** The sorts of parts in a packed row. */
    private static final int STORED = 0, FIXED = 1, MADE = 2;
    /** How many symbols codes may have: in a fixed part, and for the lengths in a made one. */
    private static final int SYMBOLS = 288, DISTANCES = 32, SIZES = 19;
    /** The last ones that mean something. */
    private static final int LAST_SYMBOL = 285, LAST_DISTANCE = 29;
    private static final int END = 256;
    private static final int LEAST_MATCH = 3, MOST_MATCH = 258;
    private static final int FAREST = 32768;
    /** As many lengths for symbols a made part has at least. */
    private static final int LEAST_TOLD = 257;
    private static final int REPEAT = 16, FEW_ZEROS = 17, MANY_ZEROS = 18;
    private static final int MOST_CODE = 15, MOST_SIZE_CODE = 7;
    private static final int[] ORDER = {16, 17, 18, 0, 8, 7, 9, 6, 10, 5, 11, 4, 12, 3, 13, 2, 14, 1, 15};

    private final Files files;
    private final Layout layout;
    private final Bytes tape, row, atHand, unpacked, stretch, outBytes;
    private final Packer packer;
    private final Unpacker unpacker;
    private int takenBlocks;

    public SharedBlocks() {
        files = new Files();
        layout = new Layout();
        tape = new Bytes(MOST_TAPE);
        row = new Bytes(MOST_ROW);
        atHand = new Bytes(MOST_BYTES);
        unpacked = new Bytes(MOST_BYTES);
        stretch = new Bytes(MOST_OUT);
        outBytes = new Bytes(MOST_OUT);
        packer = new Packer(row);
        unpacker = new Unpacker(row, unpacked);
        takenBlocks = 0;
    }

    public int feed(long bytes, int n) {
        if (n < 1 || n > 8) {
            return BAD;
        }
        if (n > tape.room()) {
            return FULL;
        }
        for (int i = 0; i < n; i++) {
            tape.add((int) (bytes >>> 8 * i));
        }
        return tape.count();
    }

    public int write(int file, int times) {
        int answer = writeTape(file, times);
        // A call that reads the tape uses it up, also when it is refused.
        tape.keep(0);
        return answer;
    }

    private int writeTape(int file, int times) {
        if (!isFile(file) || times < 1 || times > MOST_TIMES) {
            return BAD;
        }
        int n = tape.count();
        if (n * times > files.room()) {
            return FULL;
        }
        int place = files.open(file, n * times);
        for (int i = 0; i < times; i++) {
            for (int k = 0; k < n; k++) {
                files.set(place + i * n + k, tape.at(k));
            }
        }
        return files.count(file);
    }

    public int fill(int file, int kind, int b, int n) {
        if (!isFile(file) || kind < 0 || kind > 1 || n < 1 || n > MOST_BYTES) {
            return BAD;
        }
        if (n > files.room()) {
            return FULL;
        }
        int place = files.open(file, n);
        int x = b;
        for (int i = 0; i < n; i++) {
            if (kind == 1) {
                x = 1103515245 * x + 12345;
            }
            files.set(place + i, kind == 1 ? x >> 16 : b);
        }
        return files.count(file);
    }

    public int clear(int file) {
        if (!isFile(file)) {
            return BAD;
        }
        int n = files.count(file);
        files.drop(file);
        return n;
    }

    public int put(int log, boolean packing, boolean fragments) {
        if (log < LEAST_LOG || log > MOST_LOG) {
            return BAD;
        }
        // Nothing takes more of the row than it has bytes, so the files' bytes tell before anything is changed.
        if (files.bytes().count() > MOST_ROW) {
            return FULL;
        }
        row.keep(0);
        layout.begin(log);
        for (int file = 0; file < FILES; file++) {
            int twin = files.twin(file);
            if (twin >= 0) {
                layout.share(file, twin);
                continue;
            }
            int rest = putBlocks(file, packing, fragments);
            if (rest > 0 && rest > layout.blockBytes() - atHand.count()) {
                closeFragment(packing);
            }
            if (rest > 0) {
                joinFragment(file, rest);
            }
        }
        if (atHand.count() > 0) {
            closeFragment(packing);
        }
        return row.count();
    }

    /** Puts a file's blocks: how many bytes are left for a fragment. */
    private int putBlocks(int file, boolean packing, boolean fragments) {
        int n = files.count(file);
        int block = layout.blockBytes();
        int rest = fragments ? n & block - 1 : 0;
        int first = files.start(file);
        layout.open(file, n, n > rest ? row.count() : 0);
        for (int done = 0; done < n - rest; done += block) {
            int most = Math.min(block, n - done);
            if (files.bytes().isZero(first + done, most)) {
                layout.addZeros(file, most);
            } else {
                layout.addBlock(file, append(files.bytes(), first + done, most, packing));
            }
        }
        return rest;
    }

    private void joinFragment(int file, int rest) {
        layout.join(file, atHand.count());
        atHand.addAll(files.bytes(), files.start(file + 1) - rest, rest);
    }

    private void closeFragment(boolean packing) {
        int begin = row.count();
        layout.addFragment(begin, append(atHand, 0, atHand.count(), packing));
        atHand.keep(0);
    }

    /** Puts bytes behind the row, packed if that is wished and shorter: their block number. */
    private int append(Bytes source, int from, int n, boolean packing) {
        int begin = row.count();
        if (packing) {
            packer.pack(source, from, n);
            int packed = row.count() - begin;
            if (packed < n) {
                return packed;
            }
            row.keep(begin);
        }
        row.addAll(source, from, n);
        return AS_IT_IS + n;
    }

    public int about(int file, int what) {
        if (!isFile(file) || what < 0 || what > Layout.ZEROS) {
            return BAD;
        }
        return what == 0 ? files.count(file) : layout.fact(file, what);
    }

    public int number(int file, int i) {
        if (!isFile(file)) {
            return BAD;
        }
        if (i < 0 || i >= layout.fact(file, Layout.BLOCKS)) {
            return NONE;
        }
        return layout.blockNumber(file, i);
    }

    public int fragments() {
        return layout.fragmentCount();
    }

    public int fragment(int i, int what) {
        if (what < 0 || what > 1) {
            return BAD;
        }
        if (i < 0 || i >= layout.fragmentCount()) {
            return NONE;
        }
        return what == 0 ? layout.fragmentBegin(i) : layout.fragmentNumber(i);
    }

    public int size() {
        return row.count();
    }

    public long word(int i) {
        return row.eightFrom(i);
    }

    public int patch(int i, int b) {
        if (i < 0 || i >= row.count()) {
            return NONE;
        }
        int old = row.at(i);
        row.set(i, b);
        return old;
    }

    public int cut(int n) {
        if (n < 0 || n > row.count()) {
            return BAD;
        }
        int gone = row.count() - n;
        row.keep(n);
        return gone;
    }

    public int read(int file, int from, int n) {
        takenBlocks = 0;
        if (!isFile(file) || from < 0 || n < 0 || n > MOST_OUT) {
            return BAD;
        }
        int end = (int) Math.min((long) from + n, layout.fact(file, Layout.SIZE));
        int last = from < end ? end - 1 >> layout.log() : -1;
        int blocks = 0;
        stretch.keep(0);
        for (int i = from >> layout.log(); i <= last; i++) {
            int p = Math.max(from, i << layout.log());
            int took = readPiece(file, i, p, Math.min(end, i + 1 << layout.log()));
            if (took < 0) {
                return SPOILT;
            }
            blocks += took;
        }
        outBytes.keep(0);
        outBytes.addAll(stretch, 0, stretch.count());
        takenBlocks = blocks;
        return outBytes.count();
    }

    /** Adds a file's bytes from p to stop, all of block i, to the stretch: how many blocks that took, or SPOILT. */
    private int readPiece(int file, int i, int p, int stop) {
        boolean rest = i >= layout.fact(file, Layout.BLOCKS);
        int fragment = layout.fact(file, Layout.FRAGMENT);
        int number = rest ? layout.fragmentNumber(fragment) : layout.blockNumber(file, i);
        if (number == 0) {
            stretch.addZeros(stop - p);
            return 0;
        }
        int begin = rest ? layout.fragmentBegin(fragment) : layout.blockBegin(file, i);
        int offset = rest ? layout.fact(file, Layout.OFFSET) : 0;
        int inside = offset + p - (i << layout.log());
        // In a fragment a file's whole rest is looked for, however little of it is read, and others' may be behind it.
        int least = offset + layout.wholeBytes(file, i);
        int most = rest ? layout.blockBytes() : least;
        int length = number & AS_IT_IS - 1;
        if (length > row.count() - begin) {
            return SPOILT;
        }
        if (number >= AS_IT_IS) {
            stretch.addAll(row, begin + inside, stop - p);
            return 1;
        }
        if (!unpacker.unpack(begin, begin + length, most) || unpacked.count() < least) {
            return SPOILT;
        }
        stretch.addAll(unpacked, inside, stop - p);
        return 1;
    }

    public long out(int i) {
        return outBytes.eightFrom(i);
    }

    public int taken() {
        return takenBlocks;
    }

    private static boolean isFile(int file) {
        return file >= 0 && file < FILES;
    }

    /** The symbol whose length comes at this place in a made part. */
    private static int ordered(int i) {
        return i >= 0 && i < ORDER.length ? ORDER[i] : 0;
    }

    /** How many bits come behind the code of a length in a made part. */
    private static int sizeBits(int symbol) {
        if (symbol < REPEAT) {
            return 0;
        }
        return symbol == REPEAT ? 2 : symbol == FEW_ZEROS ? 3 : 7;
    }

    /** How often v is to be halved until it is below the bound. */
    private static int halvings(int v, int bound) {
        int e = 0;
        while (e < 31 && v >> e >= bound) {
            e++;
        }
        return e;
    }

    private static int lengthSymbol(int length) {
        if (length >= MOST_MATCH) {
            return LAST_SYMBOL;
        }
        int e = halvings(length - 3, 8);
        return 257 + 4 * e + (length - 3 >> e);
    }

    /** How many bits come behind a length's symbol. */
    private static int lengthBits(int symbol) {
        return symbol < 265 || symbol >= LAST_SYMBOL ? 0 : (symbol - 261) / 4;
    }

    private static int lengthBase(int symbol) {
        if (symbol < 265) {
            return symbol - 254;
        }
        return symbol >= LAST_SYMBOL ? MOST_MATCH : 3 + (4 + (symbol - 261) % 4 << lengthBits(symbol));
    }

    private static int distanceSymbol(int distance) {
        int e = halvings(distance - 1, 4);
        return 2 * e + (distance - 1 >> e);
    }

    /** How many bits come behind a distance's code. */
    private static int distanceBits(int d) {
        return d < 4 ? 0 : d / 2 - 1;
    }

    private static int distanceBase(int d) {
        return d < 4 ? d + 1 : 1 + (2 + d % 2 << distanceBits(d));
    }

    private static int checkOf(Bytes bytes, int from, int n) {
        int a = 1;
        int b = 0;
        for (int i = 0; i < n; i++) {
            a = (a + bytes.at(from + i)) % 65521;
            b = (b + a) % 65521;
        }
        return b << 16 | a;
    }

    /** The length of a symbol's code in a fixed part. */
    private static int fixedLength(int symbol) {
        if (symbol < 144) {
            return 8;
        }
        if (symbol < 256) {
            return 9;
        }
        return symbol < 280 ? 7 : 8;
    }

    /** A row of bytes up to a most; there are zeros around it, and what is too much for it is left out. */
    private static final class Bytes {
        private final byte[] cells;
        private int count;

        Bytes(int most) {
            cells = new byte[most < 0 ? 0 : most];
            count = 0;
        }

        int count() {
            return count;
        }

        int room() {
            return cells.length - count;
        }

        int at(int i) {
            return i >= 0 && i < count && i < cells.length ? cells[i] & 255 : 0;
        }

        void set(int i, int b) {
            if (i >= 0 && i < count && i < cells.length) {
                cells[i] = (byte) b;
            }
        }

        void add(int b) {
            if (count >= 0 && count < cells.length) {
                cells[count] = (byte) b;
                count++;
            }
        }

        void addZeros(int n) {
            for (int i = 0; i < n; i++) {
                add(0);
            }
        }

        void addAll(Bytes source, int from, int n) {
            if (n < 0 || from < 0 || from > source.count - n || n > cells.length - count) {
                return;
            }
            System.arraycopy(source.cells, from, cells, count, n);
            count += n;
        }

        /** Keeps the first n bytes. */
        void keep(int n) {
            if (n >= 0 && n < count) {
                count = n;
            }
        }

        /** Puts n bytes, whatever they are, in between at a place. */
        void open(int place, int n) {
            if (place < 0 || place > count || n < 0 || n > cells.length - count) {
                return;
            }
            System.arraycopy(cells, place, cells, place + n, count - place);
            count += n;
        }

        /** Takes n bytes away at a place. */
        void close(int place, int n) {
            if (place < 0 || n < 0 || place > count - n) {
                return;
            }
            System.arraycopy(cells, place + n, cells, place, count - place - n);
            count -= n;
        }

        /** Eight bytes from 8 i on, the first one lowest. */
        long eightFrom(int i) {
            if (i < 0 || i > count / 8) {
                return 0;
            }
            long eight = 0;
            for (int k = 7; k >= 0; k--) {
                eight = eight << 8 | at(8 * i + k);
            }
            return eight;
        }

        /** Three bytes from i on as a number; 0 if they are not all there. */
        int threeFrom(int i) {
            if (i < 0 || i >= Math.min(count, cells.length) - 2) {
                return 0;
            }
            return cells[i] & 255 | (cells[i + 1] & 255) << 8 | (cells[i + 2] & 255) << 16;
        }

        boolean isZero(int from, int n) {
            for (int i = 0; i < n; i++) {
                if (at(from + i) != 0) {
                    return false;
                }
            }
            return true;
        }

        /** How many bytes from two places on are the same, up to a most. */
        int sameFrom(int one, int other, int most) {
            int end = Math.min(count, cells.length);
            if (one < 0 || other < 0 || one >= end || other >= end) {
                return 0;
            }
            int bound = Math.min(most, end - Math.max(one, other));
            int n = 0;
            while (n < bound && cells[one + n] == cells[other + n]) {
                n++;
            }
            return n;
        }
    }

    /** The files' bytes, one file directly behind the other. */
    private static final class Files {
        private final Bytes all = new Bytes(MOST_BYTES);
        private final int[] starts = new int[FILES + 1];

        Bytes bytes() {
            return all;
        }

        int room() {
            return all.room();
        }

        int start(int file) {
            return file >= 0 && file < starts.length ? starts[file] : 0;
        }

        int count(int file) {
            return start(file + 1) - start(file);
        }

        void set(int place, int b) {
            all.set(place, b);
        }

        /** Makes room for n bytes behind a file's: where they come. */
        int open(int file, int n) {
            int place = start(file + 1);
            all.open(place, n);
            shiftBehind(file, n);
            return place;
        }

        void drop(int file) {
            int n = count(file);
            all.close(start(file), n);
            shiftBehind(file, -n);
        }

        private void shiftBehind(int file, int n) {
            for (int i = Math.max(file, 0) + 1; i < starts.length; i++) {
                starts[i] += n;
            }
        }

        /** The first file before this one with the same bytes, if it has any; otherwise -1. */
        int twin(int file) {
            int n = count(file);
            if (n == 0) {
                return -1;
            }
            for (int other = 0; other < file; other++) {
                if (count(other) == n && all.sameFrom(start(other), start(file), n) == n) {
                    return other;
                }
            }
            return -1;
        }
    }

    /** What was put: where the files' blocks and the fragments are. */
    private static final class Layout {
        /** A file's facts have the numbers that about() has for them; FIRST is the place of its block numbers. */
        static final int SIZE = 1, BEGIN = 2, BLOCKS = 3, FRAGMENT = 4, OFFSET = 5, ZEROS = 6, FIRST = 7, FACTS = 8;
        private static final int MOST_BLOCKS = (MOST_BYTES >> LEAST_LOG) + FILES;

        private final int[] facts = new int[FILES * FACTS];
        private final int[] numbers = new int[MOST_BLOCKS];
        private final int[] fragmentBegins = new int[FILES];
        private final int[] fragmentNumbers = new int[FILES];
        private int log;
        private int numberCount;
        private int fragmentCount;

        Layout() {
            begin(LEAST_LOG);
            for (int file = 0; file < FILES; file++) {
                note(file, FRAGMENT, NONE);
            }
        }

        void begin(int newLog) {
            log = newLog;
            numberCount = 0;
            fragmentCount = 0;
        }

        int log() {
            return log;
        }

        int blockBytes() {
            return 1 << log;
        }

        int fact(int file, int what) {
            int i = file * FACTS + what;
            return i >= 0 && i < facts.length ? facts[i] : 0;
        }

        private void note(int file, int what, int value) {
            int i = file * FACTS + what;
            if (i >= 0 && i < facts.length) {
                facts[i] = value;
            }
        }

        void open(int file, int size, int begin) {
            for (int what = 0; what < FACTS; what++) {
                note(file, what, 0);
            }
            note(file, SIZE, size);
            note(file, BEGIN, begin);
            note(file, FRAGMENT, NONE);
            note(file, FIRST, numberCount);
        }

        void share(int file, int twin) {
            for (int what = 0; what < FACTS; what++) {
                note(file, what, fact(twin, what));
            }
        }

        void addBlock(int file, int number) {
            if (numberCount >= 0 && numberCount < numbers.length) {
                numbers[numberCount] = number;
                numberCount++;
                note(file, BLOCKS, fact(file, BLOCKS) + 1);
            }
        }

        void addZeros(int file, int n) {
            addBlock(file, 0);
            note(file, ZEROS, fact(file, ZEROS) + n);
        }

        /** A file's rest comes to the fragment at hand, which is not closed yet. */
        void join(int file, int offset) {
            note(file, FRAGMENT, fragmentCount);
            note(file, OFFSET, offset);
        }

        void addFragment(int begin, int number) {
            int i = fragmentCount;
            if (i >= 0 && i < fragmentBegins.length && i < fragmentNumbers.length) {
                fragmentBegins[i] = begin;
                fragmentNumbers[i] = number;
                fragmentCount++;
            }
        }

        int fragmentCount() {
            return fragmentCount;
        }

        int fragmentBegin(int i) {
            return i >= 0 && i < fragmentBegins.length ? fragmentBegins[i] : 0;
        }

        int fragmentNumber(int i) {
            return i >= 0 && i < fragmentNumbers.length ? fragmentNumbers[i] : 0;
        }

        int blockNumber(int file, int i) {
            int at = fact(file, FIRST) + i;
            return at >= 0 && at < numbers.length ? numbers[at] : 0;
        }

        int blockBegin(int file, int i) {
            int begin = fact(file, BEGIN);
            for (int k = 0; k < i; k++) {
                begin += blockNumber(file, k) & AS_IT_IS - 1;
            }
            return begin;
        }

        /** How many bytes a file's block has. */
        int wholeBytes(int file, int i) {
            return Math.min(blockBytes(), fact(file, SIZE) - (i << log));
        }
    }

    /** Puts bits behind a row of bytes. */
    private static final class BitSink {
        private final Bytes target;
        private int held;
        private int heldBits;

        BitSink(Bytes target) {
            this.target = target;
            held = 0;
            heldBits = 0;
        }

        /** A number of up to 16 bits, its lowest bit first. */
        void bits(int value, int k) {
            held |= (value & (1 << k) - 1) << heldBits;
            heldBits += k;
            while (heldBits >= 8) {
                target.add(held);
                held >>>= 8;
                heldBits -= 8;
            }
        }

        /** How many bits are left up to the end of a byte when k more have come. */
        int bitsToByte(int k) {
            return -(heldBits + k) & 7;
        }

        void endByte() {
            bits(0, bitsToByte(0));
        }
    }

    /** A code for packing: how often its symbols come, how long their codes are, and the codes. */
    private static final class Code {
        private final int[] counts;
        private final int[] lengths;
        /** The codes with their bits turned round, as they come behind a row. */
        private final int[] turned;

        Code(int symbols) {
            int n = Math.max(symbols, 0);
            counts = new int[n];
            lengths = new int[n];
            turned = new int[n];
        }

        int symbols() {
            return counts.length;
        }

        void forget() {
            for (int s = 0; s < counts.length; s++) {
                counts[s] = 0;
            }
        }

        void count(int symbol) {
            if (symbol >= 0 && symbol < counts.length) {
                counts[symbol]++;
            }
        }

        int countOf(int symbol) {
            return symbol >= 0 && symbol < counts.length ? counts[symbol] : 0;
        }

        int lengthOf(int symbol) {
            return symbol >= 0 && symbol < lengths.length ? lengths[symbol] : 0;
        }

        int turnedOf(int symbol) {
            return symbol >= 0 && symbol < turned.length ? turned[symbol] : 0;
        }

        void setLength(int symbol, int length) {
            if (symbol >= 0 && symbol < lengths.length) {
                lengths[symbol] = length;
            }
        }

        /** Makes the codes from their lengths. */
        void makeCodes() {
            int next = 0;
            for (int length = 1; length <= MOST_CODE; length++) {
                for (int s = 0; s < lengths.length && s < turned.length; s++) {
                    if (lengths[s] == length) {
                        turned[s] = turn(next, length);
                        next++;
                    }
                }
                next <<= 1;
            }
        }

        private static int turn(int code, int length) {
            int turnedCode = 0;
            for (int i = 0; i < length; i++) {
                turnedCode = turnedCode << 1 | code >> i & 1;
            }
            return turnedCode;
        }

        /** How many symbols there are up to the last one with a code. */
        int used() {
            int n = lengths.length;
            while (n > 0 && lengths[n - 1] == 0) {
                n--;
            }
            return n;
        }

        /** How many bits the symbols take that another code has counted. */
        int bitsFor(Code counted) {
            int bits = 0;
            for (int s = 0; s < lengths.length; s++) {
                bits += lengths[s] * counted.countOf(s);
            }
            return bits;
        }
    }

    /** Makes the lengths of codes from counts, by lists of symbols and pairs. */
    private static final class LengthMaker {
        private static final int MOST_ITEMS = 2 * SYMBOLS;

        private final int[] sorted = new int[SYMBOLS];
        private final int[] sortedCounts = new int[SYMBOLS];
        private final int[] times = new int[SYMBOLS];
        private final int[] older = new int[MOST_ITEMS];
        private final int[] newer = new int[MOST_ITEMS];
        /** Which items of the lists are pairs, list behind list; those of the first one are none. */
        private final boolean[] isPair = new boolean[MOST_CODE * MOST_ITEMS];

        /** Gives a code the lengths for its counts. */
        void make(Code code, int limit) {
            int m = 0;
            for (int s = 0; s < code.symbols(); s++) {
                code.setLength(s, 0);
                int count = code.countOf(s);
                if (count > 0 && m < sorted.length) {
                    insert(s, count, m);
                    m++;
                }
            }
            begin(m);
            int items = m;
            for (int list = 1; list < limit; list++) {
                items = makeList(list, m, items);
            }
            int wanted = 2 * m - 2;
            for (int list = limit - 1; list >= 0; list--) {
                wanted = takeItems(list, wanted);
            }
            for (int i = 0; i < m && i < sorted.length && i < times.length; i++) {
                code.setLength(sorted[i], m == 1 ? 1 : times[i]);
            }
        }

        /** Puts a symbol among the m first ones, behind those with the same count. */
        private void insert(int symbol, int count, int m) {
            int i = Math.min(m, Math.min(sorted.length, sortedCounts.length) - 1);
            while (i > 0 && sortedCounts[i - 1] > count) {
                sorted[i] = sorted[i - 1];
                sortedCounts[i] = sortedCounts[i - 1];
                i--;
            }
            if (i >= 0) {
                sorted[i] = symbol;
                sortedCounts[i] = count;
            }
        }

        /** Makes the first list; nothing is taken yet. */
        private void begin(int m) {
            for (int i = 0; i < times.length; i++) {
                times[i] = 0;
            }
            for (int i = 0; i < m && i < older.length && i < sortedCounts.length; i++) {
                older[i] = sortedCounts[i];
            }
        }

        /** Makes the next list of the m symbols and of pairs of the older list's items: how many items it has. */
        private int makeList(int list, int m, int items) {
            int symbolEnd = Math.min(m, sortedCounts.length);
            int pairEnd = Math.min(items, older.length) / 2;
            int base = Math.max(list, 0) * MOST_ITEMS;
            int symbols = 0;
            int pairs = 0;
            int n = 0;
            while (n < newer.length && (symbols < symbolEnd || pairs < pairEnd)) {
                int pair = pairs < pairEnd ? older[2 * pairs] + older[2 * pairs + 1] : 0;
                boolean isSymbol = symbols < symbolEnd && (pairs >= pairEnd || sortedCounts[symbols] <= pair);
                newer[n] = isSymbol ? sortedCounts[symbols] : pair;
                if (base + n < isPair.length) {
                    isPair[base + n] = !isSymbol;
                }
                symbols += isSymbol ? 1 : 0;
                pairs += isSymbol ? 0 : 1;
                n++;
            }
            for (int i = 0; i < n && i < older.length; i++) {
                older[i] = newer[i];
            }
            return n;
        }

        /** Takes the first items of a list: how many items of the list before that takes. */
        private int takeItems(int list, int wanted) {
            int symbols = 0;
            int pairs = 0;
            int base = Math.max(list, 0) * MOST_ITEMS;
            for (int i = 0; i < wanted && i < MOST_ITEMS && base + i < isPair.length; i++) {
                if (isPair[base + i]) {
                    pairs++;
                } else {
                    symbols++;
                }
            }
            for (int i = 0; i < symbols && i < times.length; i++) {
                times[i]++;
            }
            return 2 * pairs;
        }
    }

    /** Finds the best matches in a row of bytes. */
    private static final class Matcher {
        private static final int HEAD_BITS = 15;
        private static final int MOST_CANDIDATES = 16;

        /** By what three bytes are, the latest place with such ones; what is before the era is of earlier rows. */
        private final int[] heads = new int[1 << HEAD_BITS];
        /** The place before each place, of those with one head; below 0 there is none. */
        private final int[] earlier = new int[MOST_BYTES];
        private int era = 1;
        private int first;
        private int last;
        private int bestLength;
        private int bestDistance;

        void begin(int from, int n) {
            // By this heads need not be emptied for each row: all places of the rows before lie before the new era.
            era += last - first;
            first = from;
            last = from + n;
        }

        private static int headOf(int three) {
            return three * -1640531535 >>> 32 - HEAD_BITS;
        }

        /** Makes a place known for the places behind it. */
        void know(Bytes source, int p) {
            int head = headOf(source.threeFrom(p));
            int place = p - first;
            if (p + 3 > last || place < 0 || place >= earlier.length || head < 0 || head >= heads.length) {
                return;
            }
            earlier[place] = heads[head] - era;
            heads[head] = era + place;
        }

        /** Looks for the best match at a place: whether there is one. */
        boolean find(Bytes source, int p, int partEnd) {
            bestLength = 0;
            bestDistance = 0;
            int most = Math.min(MOST_MATCH, partEnd - p);
            int head = headOf(source.threeFrom(p));
            if (most < LEAST_MATCH || head < 0 || head >= heads.length) {
                return false;
            }
            int place = p - first;
            int q = heads[head] - era;
            int candidates = 0;
            for (int steps = 0; steps < MOST_BYTES && candidates < MOST_CANDIDATES && bestLength < most; steps++) {
                if (q < 0 || q >= place || q >= earlier.length || place - q > FAREST) {
                    break;
                }
                int same = source.sameFrom(first + q, p, most);
                candidates += same >= LEAST_MATCH ? 1 : 0;
                if (same >= LEAST_MATCH && same > bestLength) {
                    bestLength = same;
                    bestDistance = place - q;
                }
                q = earlier[q];
            }
            return bestLength > 0;
        }

        int length() {
            return bestLength;
        }

        int distance() {
            return bestDistance;
        }
    }

    /** Packs bytes behind a row. */
    private static final class Packer {
        private static final int PART = 4096;
        private static final int MOST_TOLD = SYMBOLS + DISTANCES;

        private final BitSink sink;
        private final Matcher matcher = new Matcher();
        private final LengthMaker maker = new LengthMaker();
        private final Code symbols = new Code(LAST_SYMBOL + 1);
        private final Code distances = new Code(LAST_DISTANCE + 1);
        private final Code sizes = new Code(SIZES);
        private final Code fixedSymbols = new Code(SYMBOLS);
        private final Code fixedDistances = new Code(DISTANCES);
        /** The part at hand: a byte, with the distance 0, or a match's length and distance. */
        private final int[] values = new int[PART];
        private final int[] backs = new int[PART];
        private int items;
        private int moreBits;
        /** The row of lengths as it is told: its symbols, and the numbers behind them. */
        private final int[] told = new int[MOST_TOLD];
        private final int[] toldMore = new int[MOST_TOLD];
        private int toldCount;

        Packer(Bytes target) {
            sink = new BitSink(target);
            for (int s = 0; s < SYMBOLS; s++) {
                fixedSymbols.setLength(s, fixedLength(s));
            }
            for (int d = 0; d < DISTANCES; d++) {
                fixedDistances.setLength(d, 5);
            }
            fixedSymbols.makeCodes();
            fixedDistances.makeCodes();
        }

        void pack(Bytes source, int from, int n) {
            int end = from + n;
            matcher.begin(from, n);
            sink.bits(120, 8);
            sink.bits(156, 8);
            for (int at = from; at < end; at += PART) {
                int to = Math.min(at + PART, end);
                gather(source, at, to);
                makeCodes();
                makeTold();
                makeSizes();
                int sort = bestSort(to - at);
                sink.bits(to == end ? 1 : 0, 1);
                sink.bits(sort, 2);
                if (sort == STORED) {
                    sink.endByte();
                    tellStored(source, at, to);
                } else if (sort == FIXED) {
                    tellItems(fixedSymbols, fixedDistances);
                } else {
                    tellHeader();
                    tellItems(symbols, distances);
                }
            }
            sink.endByte();
            int check = checkOf(source, from, n);
            for (int shift = 24; shift >= 0; shift -= 8) {
                sink.bits(check >>> shift, 8);
            }
        }

        /** Turns a part in bytes and matches, and counts them. */
        private void gather(Bytes source, int from, int to) {
            items = 0;
            moreBits = 0;
            symbols.forget();
            distances.forget();
            int n = 1;
            for (int p = from; p < to; p += n) {
                if (matcher.find(source, p, to)) {
                    n = Math.max(matcher.length(), 1);
                    addItem(n, matcher.distance());
                    countMatch(lengthSymbol(n), distanceSymbol(matcher.distance()));
                } else {
                    n = 1;
                    addItem(source.at(p), 0);
                    symbols.count(source.at(p));
                }
                for (int i = 0; i < n; i++) {
                    matcher.know(source, p + i);
                }
            }
            symbols.count(END);
        }

        private void addItem(int value, int back) {
            if (items >= 0 && items < values.length && items < backs.length) {
                values[items] = value;
                backs[items] = back;
                items++;
            }
        }

        private void countMatch(int symbol, int distance) {
            symbols.count(symbol);
            distances.count(distance);
            moreBits += lengthBits(symbol) + distanceBits(distance);
        }

        private void makeCodes() {
            maker.make(symbols, MOST_CODE);
            maker.make(distances, MOST_CODE);
            symbols.makeCodes();
            distances.makeCodes();
        }

        /** Makes the code that tells the row of lengths. */
        private void makeSizes() {
            sizes.forget();
            for (int i = 0; i < toldCount && i < told.length; i++) {
                sizes.count(told[i]);
            }
            maker.make(sizes, MOST_SIZE_CODE);
            sizes.makeCodes();
        }

        private int toldSymbols() {
            return Math.max(symbols.used(), LEAST_TOLD);
        }

        private int toldDistances() {
            return Math.max(distances.used(), 1);
        }

        private int toldSizes() {
            int n = SIZES;
            while (n > 4 && sizes.lengthOf(ordered(n - 1)) == 0) {
                n--;
            }
            return n;
        }

        /** Makes the row of lengths, stretch by stretch of the same ones. */
        private void makeTold() {
            int ofSymbols = toldSymbols();
            int all = ofSymbols + toldDistances();
            int length = -1;
            int same = 0;
            toldCount = 0;
            for (int i = 0; i < all; i++) {
                int next = i < ofSymbols ? symbols.lengthOf(i) : distances.lengthOf(i - ofSymbols);
                if (next != length) {
                    tellSame(length, same);
                    length = next;
                    same = 0;
                }
                same++;
            }
            tellSame(length, same);
        }

        private void tellSame(int length, int n) {
            int left = n;
            if (length > 0 && left > 0) {
                addTold(length, 0);
                left--;
            }
            while (length == 0 && left >= 11) {
                int most = Math.min(left, 138);
                addTold(MANY_ZEROS, most - 11);
                left -= most;
            }
            if (length == 0 && left >= 3) {
                addTold(FEW_ZEROS, left - 3);
                left = 0;
            }
            while (length > 0 && left >= 3) {
                int most = Math.min(left, 6);
                addTold(REPEAT, most - 3);
                left -= most;
            }
            for (int i = 0; i < left; i++) {
                addTold(length, 0);
            }
        }

        private void addTold(int symbol, int more) {
            if (toldCount >= 0 && toldCount < told.length && toldCount < toldMore.length) {
                told[toldCount] = symbol;
                toldMore[toldCount] = more;
                toldCount++;
            }
        }

        /** The sort of part that takes the fewest bits, of several the one with the least number. */
        private int bestSort(int n) {
            int header = 14 + 3 * toldSizes() + sizes.bitsFor(sizes);
            for (int i = 0; i < toldCount && i < told.length; i++) {
                header += sizeBits(told[i]);
            }
            int made = 3 + header + symbols.bitsFor(symbols) + distances.bitsFor(distances) + moreBits;
            int fixed = 3 + fixedSymbols.bitsFor(symbols) + fixedDistances.bitsFor(distances) + moreBits;
            int stored = 3 + sink.bitsToByte(3) + 32 + 8 * n;
            if (stored <= fixed && stored <= made) {
                return STORED;
            }
            return fixed <= made ? FIXED : MADE;
        }

        private void tellStored(Bytes source, int from, int to) {
            sink.bits(to - from, 16);
            sink.bits(65535 - (to - from), 16);
            for (int p = from; p < to; p++) {
                sink.bits(source.at(p), 8);
            }
        }

        private void tellHeader() {
            int ofSizes = toldSizes();
            sink.bits(toldSymbols() - LEAST_TOLD, 5);
            sink.bits(toldDistances() - 1, 5);
            sink.bits(ofSizes - 4, 4);
            for (int i = 0; i < ofSizes; i++) {
                sink.bits(sizes.lengthOf(ordered(i)), 3);
            }
            for (int i = 0; i < toldCount && i < told.length && i < toldMore.length; i++) {
                sink.bits(sizes.turnedOf(told[i]), sizes.lengthOf(told[i]));
                sink.bits(toldMore[i], sizeBits(told[i]));
            }
        }

        private void tellItems(Code ofSymbols, Code ofDistances) {
            for (int i = 0; i < items && i < values.length && i < backs.length; i++) {
                boolean match = backs[i] > 0;
                int s = match ? lengthSymbol(values[i]) : values[i];
                sink.bits(ofSymbols.turnedOf(s), ofSymbols.lengthOf(s));
                if (match) {
                    int d = distanceSymbol(backs[i]);
                    sink.bits(values[i] - lengthBase(s), lengthBits(s));
                    sink.bits(ofDistances.turnedOf(d), ofDistances.lengthOf(d));
                    sink.bits(backs[i] - distanceBase(d), distanceBits(d));
                }
            }
            sink.bits(ofSymbols.turnedOf(END), ofSymbols.lengthOf(END));
        }
    }

    /** Takes bits from a stretch of a row of bytes; behind its end they are 0, and it is told that they are missing. */
    private static final class BitSource {
        private final Bytes row;
        private int place;
        private int end;
        private int usedBits;
        private boolean missing;

        BitSource(Bytes row) {
            this.row = row;
        }

        void begin(int from, int to) {
            place = from;
            end = to;
            usedBits = 0;
            missing = false;
        }

        boolean isMissing() {
            return missing;
        }

        int bit() {
            if (place >= end) {
                missing = true;
                return 0;
            }
            int bit = row.at(place) >> usedBits & 1;
            usedBits++;
            if (usedBits == 8) {
                usedBits = 0;
                place++;
            }
            return bit;
        }

        int bits(int k) {
            int value = 0;
            for (int i = 0; i < k; i++) {
                value |= bit() << i;
            }
            return value;
        }

        void endByte() {
            if (usedBits > 0) {
                usedBits = 0;
                place++;
            }
        }

        int bytesLeft() {
            return end - place;
        }
    }

    /** A code for unpacking. */
    private static final class ReadCode {
        private final int[] ofLength = new int[MOST_CODE + 1];
        private final int[] sorted = new int[SYMBOLS];
        private final int[] next = new int[MOST_CODE + 1];

        /** Makes the code of n lengths from a place on: whether they make one; a code of none may be allowed. */
        boolean make(int[] lengths, int from, int n, boolean noneToo) {
            for (int length = 0; length < ofLength.length; length++) {
                ofLength[length] = 0;
            }
            int used = 0;
            for (int s = 0; s < n; s++) {
                int length = lengthAt(lengths, from + s);
                ofLength[length]++;
                used += length > 0 ? 1 : 0;
            }
            ofLength[0] = 0;
            sort(lengths, from, n);
            int left = 1;
            for (int length = 1; length < ofLength.length; length++) {
                left = 2 * left - ofLength[length];
                if (left < 0) {
                    return false;
                }
            }
            return left == 0 || used == 1 && ofLength[1] == 1 || used == 0 && noneToo;
        }

        private int lengthAt(int[] lengths, int i) {
            return i >= 0 && i < lengths.length ? lengths[i] & MOST_CODE : 0;
        }

        /** Sorts the symbols by the lengths of their codes, then by themselves. */
        private void sort(int[] lengths, int from, int n) {
            int at = 0;
            for (int length = 1; length < next.length && length < ofLength.length; length++) {
                next[length] = at;
                at += ofLength[length];
            }
            for (int s = 0; s < n; s++) {
                int length = lengthAt(lengths, from + s);
                if (length > 0 && length < next.length && next[length] >= 0 && next[length] < sorted.length) {
                    sorted[next[length]] = s;
                    next[length]++;
                }
            }
        }

        /** The next symbol; -1 if the bits are no beginning of a code. */
        int symbol(BitSource source) {
            int code = 0;
            int first = 0;
            int before = 0;
            for (int length = 1; length < ofLength.length; length++) {
                code |= source.bit();
                int i = code - first;
                if (i < ofLength[length]) {
                    return before + i >= 0 && before + i < sorted.length ? sorted[before + i] : -1;
                }
                before += ofLength[length];
                first = first + ofLength[length] << 1;
                code <<= 1;
            }
            return -1;
        }
    }

    /** Unpacks packed rows that stand in a row of bytes. */
    private static final class Unpacker {
        /** Each part and each symbol takes a bit at least, so no packed row has as many of them. */
        private static final int ENDLESS = 8 * MOST_ROW;

        private final BitSource source;
        private final Bytes target;
        private final ReadCode symbols = new ReadCode();
        private final ReadCode distances = new ReadCode();
        private final ReadCode sizes = new ReadCode();
        private final int[] lengths = new int[SYMBOLS + DISTANCES];
        private int toldSymbols;
        private int toldDistances;
        private int most;
        private int farest;

        Unpacker(Bytes row, Bytes target) {
            source = new BitSource(row);
            this.target = target;
        }

        /** Unpacks what stands from a place to another: whether it has no fault and makes not too many bytes. */
        boolean unpack(int from, int to, int mostBytes) {
            target.keep(0);
            most = mostBytes;
            source.begin(from, to);
            if (!readBeginning()) {
                return false;
            }
            for (int part = 0; part < ENDLESS; part++) {
                boolean last = source.bit() == 1;
                int sort = source.bits(2);
                boolean good = false;
                if (sort == STORED) {
                    good = readStored();
                } else if (sort == FIXED) {
                    good = makeFixed() && readSymbols();
                } else if (sort == MADE) {
                    good = readSizes() && readLengths() && makeCodes() && readSymbols();
                }
                if (!good || source.isMissing()) {
                    return false;
                }
                if (last) {
                    return readCheck();
                }
            }
            return false;
        }

        private boolean readBeginning() {
            int x = source.bits(8);
            int y = source.bits(8);
            farest = 256 << (x >> 4);
            return !source.isMissing() && (256 * x + y) % 31 == 0 && (x & 15) == 8 && x >> 4 <= 7 && (y & 32) == 0;
        }

        private boolean readCheck() {
            source.endByte();
            if (source.bytesLeft() != 4) {
                return false;
            }
            int check = 0;
            for (int i = 0; i < 4; i++) {
                check = check << 8 | source.bits(8);
            }
            return check == checkOf(target, 0, target.count());
        }

        private boolean readStored() {
            source.endByte();
            int n = source.bits(16);
            int other = source.bits(16);
            if (source.isMissing() || n + other != 65535 || n > source.bytesLeft() || n > most - target.count()) {
                return false;
            }
            for (int i = 0; i < n; i++) {
                target.add(source.bits(8));
            }
            return true;
        }

        private boolean makeFixed() {
            for (int i = 0; i < lengths.length; i++) {
                lengths[i] = i < SYMBOLS ? fixedLength(i) : 5;
            }
            return symbols.make(lengths, 0, SYMBOLS, false)
                    && distances.make(lengths, SYMBOLS, DISTANCES, false);
        }

        /** Reads the head of a made part and the code of the lengths in it. */
        private boolean readSizes() {
            toldSymbols = source.bits(5) + LEAST_TOLD;
            toldDistances = source.bits(5) + 1;
            int toldSizes = source.bits(4) + 4;
            for (int i = 0; i < SIZES; i++) {
                int s = ordered(i);
                int length = i < toldSizes ? source.bits(3) : 0;
                if (s >= 0 && s < lengths.length) {
                    lengths[s] = length;
                }
            }
            return !source.isMissing() && toldSymbols <= LAST_SYMBOL + 1
                    && toldDistances <= LAST_DISTANCE + 1 && sizes.make(lengths, 0, SIZES, false);
        }

        private boolean readLengths() {
            int all = toldSymbols + toldDistances;
            int at = 0;
            while (at < all) {
                int s = sizes.symbol(source);
                int times = s == REPEAT || s == FEW_ZEROS ? 3 : s == MANY_ZEROS ? 11 : 1;
                times += source.bits(sizeBits(s));
                if (s < 0 || source.isMissing() || s == REPEAT && at == 0 || times > all - at) {
                    return false;
                }
                int length = s < REPEAT ? s : 0;
                if (s == REPEAT && at > 0 && at <= lengths.length) {
                    length = lengths[at - 1];
                }
                for (int i = at; i < at + times && i < lengths.length; i++) {
                    lengths[i] = length;
                }
                at += times;
            }
            return true;
        }

        private boolean makeCodes() {
            return END < lengths.length && lengths[END] > 0
                    && symbols.make(lengths, 0, toldSymbols, false)
                    && distances.make(lengths, toldSymbols, toldDistances, true);
        }

        /** Reads the symbols of a part up to its end. */
        private boolean readSymbols() {
            for (int i = 0; i < ENDLESS; i++) {
                int s = symbols.symbol(source);
                if (s < 0 || s > LAST_SYMBOL || source.isMissing()) {
                    return false;
                }
                if (s == END) {
                    return true;
                }
                if (s < END) {
                    if (target.count() >= most) {
                        return false;
                    }
                    target.add(s);
                    continue;
                }
                int length = lengthBase(s) + source.bits(lengthBits(s));
                int d = distances.symbol(source);
                if (d < 0 || d > LAST_DISTANCE) {
                    return false;
                }
                int distance = distanceBase(d) + source.bits(distanceBits(d));
                if (source.isMissing() || !repeat(length, distance)) {
                    return false;
                }
            }
            return false;
        }

        private boolean repeat(int length, int distance) {
            if (distance > target.count() || distance > farest || length > most - target.count()) {
                return false;
            }
            for (int i = 0; i < length; i++) {
                target.add(target.at(target.count() - distance));
            }
            return true;
        }
    }
}
