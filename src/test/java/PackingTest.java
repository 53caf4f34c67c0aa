import java.util.Arrays;
import java.util.Random;
import java.util.zip.DataFormatException;
import java.util.zip.Inflater;

/** Whole packed rows: as the model packs, and read by another unpacker. */
final class PackingTest {
    private static final int WORDS = 256;

    private PackingTest() {
    }

    /** What makes the bytes of file 0; the same on any number of objects. */
    private interface Recipe {
        void make(Both both);
    }

    /** An object and the model, called alike. */
    private static final class Both {
        final SharedBlocks own = new SharedBlocks();
        final Model model = new Model();

        Both fill(int kind, int b, int n) {
            Due.same("fill", own.fill(0, kind, b, n), model.fill(0, kind, b, n));
            return this;
        }

        Both text(String text, int times) {
            for (int i = 0; i < text.length(); i += 8) {
                long bytes = 0;
                int n = Math.min(8, text.length() - i);
                for (int k = n - 1; k >= 0; k--) {
                    bytes = bytes << 8 | text.charAt(i + k);
                }
                own.feed(bytes, n);
                model.feed(bytes, n);
            }
            Due.same("write", own.write(0, times), model.write(0, times));
            return this;
        }
    }

    public static void main(String[] args) throws DataFormatException {
        ordinary();
        edgesOfMatches();
        edgesOfParts();
        edgesOfSorts();
        edgesOfFixed();
        drawn();
        System.out.println("as many bits, or one more: " + Arrays.toString(Model.seenTies));
        for (int tie : Model.seenTies) {
            Due.holds("parts were compared that take as many bits, or one more", tie >= 5);
        }
        Due.end();
    }

    private static void compare(String name, int log, Recipe recipe) throws DataFormatException {
        Both both = new Both();
        recipe.make(both);
        Model model = both.model;
        int size = model.put(log, true, false);
        byte[] row = new byte[size];
        for (int from = 0; from <= size / 8; from += WORDS) {
            if (from > 0) {
                both = new Both();
                recipe.make(both);
            }
            Due.same(name + ": put", both.own.put(log, true, false), size);
            for (int i = from; i < Math.min(size / 8 + 1, from + WORDS); i++) {
                long word = both.own.word(i);
                Due.same(name + ": word " + i, word, model.word(i));
                for (int k = 0; k < 8 && 8 * i + k < size; k++) {
                    row[8 * i + k] = (byte) (word >>> 8 * k);
                }
            }
        }
        readBack(name, both.own, model);
        inflate(name, log, both.own, row);
    }

    private static void readBack(String name, SharedBlocks own, Model model) {
        int bytes = model.about(0, 1);
        for (int from = 0; from < bytes; from += Math.max(4096, bytes / 8)) {
            int got = own.read(0, from, 4096);
            Due.same(name + ": read " + from, got, model.read(0, from, 4096));
            Due.same(name + ": out", own.out(got / 16), model.out(got / 16));
        }
    }

    /** The library's unpacker makes as many bytes of each packed block, with the same check. */
    private static void inflate(String name, int log, SharedBlocks own, byte[] row) throws DataFormatException {
        int bytes = own.about(0, 1);
        int at = 0;
        for (int i = 0; i << log < bytes; i++) {
            int number = own.number(0, i);
            int n = number & 16777215;
            int whole = Math.min(1 << log, bytes - (i << log));
            if (number != 0 && number == n) {
                Inflater inflater = new Inflater();
                inflater.setInput(row, at, n);
                byte[] made = new byte[whole + 1];
                Due.same(name + ": inflated", inflater.inflate(made), whole);
                Due.holds(name + ": the inflater is at the end", inflater.finished() && inflater.getRemaining() == 0);
                inflater.end();
            }
            at += n;
        }
        Due.same(name + ": the blocks are the row", at, row.length);
    }

    private static void ordinary() throws DataFormatException {
        compare("text", 12, both -> both.text("the quick brown fox jumps over the lazy dog. ", 40));
        compare("one byte", 12, both -> both.fill(0, 1, 1));
        compare("one byte often", 16, both -> both.fill(0, 200, 65536));
        compare("drawn bytes", 12, both -> both.fill(1, 99, 9000));
        compare("no distances", 12, both -> both.text("abcdefghijklmnopqrstuvwxyzacegikmoqsuwybdfhjlnprtvxz", 1));
        compare("one distance", 12, both -> both.text("abcabcabcabcabcabcabcabc", 1));
        compare("mixed", 13, both -> both.fill(1, 3, 900).fill(0, 0, 3000).text("mississippi ", 60).fill(1, 3, 5000));
    }

    private static void edgesOfMatches() throws DataFormatException {
        for (int gap = 32764; gap <= 32772; gap++) {
            int n = gap - 4;
            compare("far " + gap, 16, both -> both.text("WXYZ", 1).fill(0, 1, n).text("WXYZ", 1).fill(0, 2, 9));
        }
        for (int n = 255; n <= 262; n++) {
            int times = n;
            compare("long " + n, 12, both -> both.fill(1, 7, times).fill(0, 3, 1).fill(1, 7, times).fill(0, 5, 300));
        }
        for (int n = 1; n <= 20; n++) {
            int times = n;
            compare("short " + n, 12, both -> both.fill(0, 65, times).text("12", 1).fill(0, 65, times).fill(0, 9, 90));
        }
        // The longest match is behind 16, then 17 shorter ones.
        for (int n = 14; n <= 18; n++) {
            StringBuilder text = new StringBuilder("abcdefgh");
            for (int i = 0; i < n; i++) {
                text.append("abc").append((char) (65 + i));
            }
            String all = text + "abcdefgh";
            compare("candidates " + n, 12, both -> both.text(all, 1).fill(0, 90, 200));
        }
        compare("nearest of the same length", 12, both -> both.text("abcXabcYabcZabc", 5).fill(0, 1, 100));
    }

    private static void edgesOfParts() throws DataFormatException {
        for (int n = 4094; n <= 4098; n++) {
            int times = n;
            compare("part " + n, 13, both -> both.fill(0, 1, times).text("abcabcabcabcabcabc", 3));
            compare("drawn part " + n, 13, both -> both.fill(1, 4, times).fill(1, 4, 200).fill(0, 0, 3000));
            compare("words over the border " + n, 14,
                    both -> both.text("lorem ipsum ", 1).fill(0, 32, times - 18).text("lorem ipsum ", 9));
        }
        compare("stored and others", 15,
                both -> both.fill(1, 1, 4096).fill(0, 1, 5000).fill(1, 2, 4500).fill(0, 2, 9000));
        compare("last part of one byte", 13, both -> both.fill(0, 77, 4097).fill(0, 1, 4095));
        compare("last part of two bytes", 14, both -> both.fill(0, 77, 8194));
        compare("all of it", 16, both -> both.fill(1, 5, 30000).fill(0, 4, 2768).fill(1, 5, 32768));
    }

    /** Fifteen files at a time, each of a part that packs well and a rest, for which several sorts are as good. */
    private static void edgesOfSorts() {
        for (int run = 0; run < 60; run++) {
            SharedBlocks own = new SharedBlocks();
            Model model = new Model();
            for (int file = 0; file < 15; file++) {
                int lead = 4096 - (run % 3 == 0 ? 0 : file * 3);
                own.fill(file, 0, 250 + file, lead);
                model.fill(file, 0, 250 + file, lead);
                int n = 4096 - lead + 16 + run + file;
                own.fill(file, 1, 100 * run + file, n);
                model.fill(file, 1, 100 * run + file, n);
                if (run % 2 == 0) {
                    own.feed(0x2020202061616161L, 1 + file % 8);
                    model.feed(0x2020202061616161L, 1 + file % 8);
                    own.write(file, 3 + run / 4);
                    model.write(file, 3 + run / 4);
                }
            }
            int size = model.put(13, true, false);
            Due.same("sorts " + run + ": put", own.put(13, true, false), size);
            for (int file = 0; file < 15; file++) {
                Due.same("sorts " + run + ": number of " + file, own.number(file, 0), model.number(file, 0));
            }
            for (int i = 0; i < 400 && i <= size / 8; i++) {
                Due.same("sorts " + run + ": word " + i, own.word(i), model.word(i));
            }
        }
    }

    /** Forty short files at a time, of few letters, for which a fixed part and a made one are nearly as good. */
    private static void edgesOfFixed() {
        Random random = new Random(11);
        for (int run = 0; run < 40; run++) {
            SharedBlocks own = new SharedBlocks();
            Model model = new Model();
            for (int file = 0; file < 40; file++) {
                int letters = 2 + random.nextInt(12);
                int base = random.nextInt(200);
                for (int feeds = 3 + random.nextInt(4); feeds > 0; feeds--) {
                    long bytes = 0;
                    for (int k = 0; k < 8; k++) {
                        bytes = bytes << 8 | base + (int) (letters * random.nextDouble() * random.nextDouble());
                    }
                    own.feed(bytes, 8);
                    model.feed(bytes, 8);
                }
                own.write(file, 1);
                model.write(file, 1);
            }
            int size = model.put(12, true, false);
            Due.same("fixed " + run + ": put", own.put(12, true, false), size);
            for (int file = 0; file < 40; file++) {
                Due.same("fixed " + run + ": number of " + file, own.number(file, 0), model.number(file, 0));
            }
            for (int i = 0; i < 110 && i <= size / 8; i++) {
                Due.same("fixed " + run + ": word " + i, own.word(i), model.word(i));
            }
        }
    }

    private static void drawn() throws DataFormatException {
        Random random = new Random(7);
        for (int run = 0; run < 60; run++) {
            long seed = random.nextLong();
            compare("drawn " + run, 12 + run % 5, both -> draw(both, new Random(seed)));
        }
    }

    private static void draw(Both both, Random random) {
        int pieces = 3 + random.nextInt(12);
        for (int i = 0; i < pieces; i++) {
            int kind = random.nextInt(4);
            if (kind == 0) {
                both.fill(0, random.nextInt(3), 1 + random.nextInt(random.nextBoolean() ? 20 : 2000));
            } else if (kind == 1) {
                both.fill(1, random.nextInt(3), 1 + random.nextInt(random.nextBoolean() ? 20 : 2000));
            } else {
                StringBuilder text = new StringBuilder();
                int alphabet = 2 + random.nextInt(kind == 2 ? 6 : 200);
                int n = 1 + random.nextInt(120);
                for (int k = 0; k < n; k++) {
                    text.append((char) (alphabet * random.nextDouble() * random.nextDouble() * random.nextDouble()));
                }
                both.text(text.toString(), 1 + random.nextInt(4));
            }
        }
    }
}
