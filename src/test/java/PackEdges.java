import java.util.Arrays;
import java.util.Collections;
import java.util.HashSet;
import java.util.List;
import java.util.ArrayList;
import java.util.PriorityQueue;
import java.util.Random;
import java.util.Set;

/** The edges of packing: rows as put() packs them, taken apart. */
final class PackEdges {
    private static final String TERMS = "Terms";

    private PackEdges() {
    }

    static void run() {
        partsOf4096();
        threeInThePart();
        farAway();
        threeTheSame();
        longest();
        notBeyondThePart();
        candidates();
        best();
        onBehind();
        counts();
        noneAndOne();
        limit15();
        limit7();
        lists();
        leastCost();
        headSmall();
        wholeStretches();
        zerosTold();
        sameTold();
        overTheBorder();
        onesOverTheBorder();
        manyTold();
        sizesFromTold();
        storedOrNot();
        fixedOrMade();
    }

    /** Bytes drawn from so many that lie side by side, the first ones the oftener the higher the power. */
    private static byte[] skewed(long seed, int first, int kinds, int n, int power) {
        Random random = new Random(seed);
        byte[] bytes = new byte[n];
        for (int i = 0; i < n; i++) {
            double u = 1;
            for (int k = 0; k < power; k++) {
                u *= random.nextDouble();
            }
            bytes[i] = (byte) (first + (int) (kinds * u));
        }
        return bytes;
    }

    private static void itemsAre(String name, Recipe recipe, String due) {
        String got = Parsed.of(recipe).text();
        Due.holds(name + ": " + got + " is " + due, got.equals(due));
    }

    private static void partsOf4096() {
        Doc.says(TERMS, "WHEN A ROW IS PACKED: it is cut in parts of 4096 bytes, the last one what is left.");
        for (int n : new int[] {100, 4095, 4096, 4097, 8191, 8192, 8193, 65535, 65536}) {
            List<Parsed.Part> parts = Parsed.of(new Recipe().run(7, n)).parts;
            Due.same("parts of " + n, parts.size(), (n + 4095) / 4096);
            for (int i = 0; i < parts.size(); i++) {
                Due.same("bytes of part " + i + " of " + n, parts.get(i).count, Math.min(4096, n - 4096 * i));
            }
        }
    }

    private static void threeInThePart() {
        Doc.says(TERMS, "A MATCH at a place p, from which on there are three bytes in its part,");
        String[] ends = {"x | y z R", "x y | z R", "3<4092 | R", "4<4092 | "};
        for (int left = 1; left <= 4; left++) {
            // The second xyz begins so many bytes before the end of the part; the same byte follows it in part two.
            int run = 4096 - left - 4;
            Recipe recipe = new Recipe().text("xyzQ").run(1, run).text(left == 4 ? "xyzQ" : "xyzR").run(2, 60);
            String text = Parsed.of(recipe).text();
            String due = ends[left - 1].replace("4092", "" + (run + 4));
            Due.holds(left + " left: " + text + " has " + due, text.contains(" " + due));
        }
        for (int n = 1; n <= 4; n++) {
            Recipe recipe = new Recipe().text("xyzw").run(1, 60).bytes(Arrays.copyOf(Recipe.bytesOf("xyzw"), n));
            String due = n == 1 ? "x" : n == 2 ? "x y" : n + "<64";
            itemsAre(n + " at the end of the row", recipe, "x y z w 1 59<1 " + due);
        }
    }

    private static void farAway() {
        Doc.says(TERMS, "is with a place q before it, at most 32768 away,");
        for (int gap = 32766; gap <= 32770; gap++) {
            Recipe recipe = new Recipe().run(3, 50).text("WXYZ").run(1, gap - 4).text("WXYZ").run(2, 9);
            String text = Parsed.of(recipe).text();
            // At 32769 neither WXY nor XYZ is near enough.
            Due.holds(gap + " away: " + text, text.endsWith(gap <= 32768 ? " 4<" + gap + " 2 8<1" : " W X Y Z 2 8<1"));
        }
        // Of two places the one that is too far does not count, however long it is the same.
        Recipe recipe = new Recipe().run(3, 50).text("WXYZ").run(1, 20).text("WXYQ").run(1, 32769 - 28).text("WXYZ")
                .run(2, 9);
        Due.holds("the nearer one", Parsed.of(recipe).text().endsWith(" 3<32745 Z 2 8<1"));
    }

    private static void threeTheSame() {
        Doc.says(TERMS, "when three bytes from q on are those from p on;");
        itemsAre("two are the same", new Recipe().run(1, 40).text("abQabRaSbcT"), "1 39<1 a b Q a b R a S b c T");
        itemsAre("three are the same", new Recipe().run(1, 40).text("abcQabRabcS"), "1 39<1 a b c Q a b R 3<7 S");
        itemsAre("the first one is another", new Recipe().run(1, 40).text("abcQxbcR"), "1 39<1 a b c Q x b c R");
        for (int n = 1; n <= 6; n++) {
            String due = n < 4 ? "a" + " a".repeat(n - 1) : "a " + (n - 1) + "<1";
            itemsAre("bytes that are just being made, " + n, new Recipe().run(1, 40).run(97, n).run(2, 40),
                    "1 39<1 " + due + " 2 39<1");
        }
        // The bytes from q on go over the border of two parts.
        for (int at = 4093; at <= 4097; at++) {
            Recipe recipe = new Recipe().run(1, at).text("xyzQ").run(2, 40).text("xyzR");
            Due.holds("q at " + at, Parsed.of(recipe).text().endsWith(" 2 39<1 3<44 R"));
        }
    }

    private static void longest() {
        Doc.says(TERMS, "its LENGTH is how many bytes from both on are the same, at most 258,");
        String[] due = {"256<1", "257<1", "258<1", "258<1 a", "258<1 a a", "258<1 3<1"};
        for (int n = 257; n <= 262; n++) {
            itemsAre("a run of " + n, new Recipe().run(97, n), "a " + due[n - 257]);
        }
        for (int n = 3; n <= 20; n++) {
            byte[] phrase = new Recipe().drawn(7, n).all();
            String text = Parsed.of(new Recipe().bytes(phrase).run(1, 50).bytes(phrase).run(2, 50)).text();
            Due.holds("a phrase of " + n + ": " + text, text.endsWith(" 1 49<1 " + n + "<" + (n + 50) + " 2 49<1"));
        }
        byte[] phrase = new Recipe().drawn(9, 300).all();
        for (int n = 257; n <= 259; n++) {
            Recipe recipe = new Recipe().bytes(phrase).run(1, 50).bytes(Arrays.copyOf(phrase, n)).run(2, 50);
            String text = Parsed.of(recipe).text();
            String match = n <= 258 ? n + "<350" : "258<350 " + (phrase[258] & 255);
            Due.holds("a phrase of " + n + ": " + text, text.endsWith(" 1 49<1 " + match + " 2 49<1"));
        }
    }

    private static void notBeyondThePart() {
        Doc.says(TERMS, "and not beyond p's part.");
        for (int n = 4096 - 1; n <= 4096 + 260; n += n < 4100 ? 1 : 32) {
            StringBuilder due = new StringBuilder("a");
            for (int left = Math.min(n, 4096) - 1; left > 0; left -= 258) {
                due.append(' ').append(Math.min(left, 258)).append("<1");
            }
            int left = n - 4096;
            due.append(left > 0 ? " | " : "");
            due.append(left <= 0 ? "" : left < 3 ? "a" + " a".repeat(left - 1) : Math.min(left, 258) + "<1");
            due.append(left > 258 ? " a" + " a".repeat(left - 259) : "");
            itemsAre("a run of " + n, new Recipe().run(97, n), due.toString());
        }
        byte[] phrase = Recipe.bytesOf("ABCDEFGHIJ");
        for (int before = 2; before <= 8; before++) {
            Recipe recipe = new Recipe().bytes(phrase).run(1, 4096 - 10 - before).bytes(phrase).run(2, 50);
            String text = Parsed.of(recipe).text();
            int back = 4096 - before;
            String due = before < 3 ? "A B | 8<" + back
                    : before + "<" + back + " | " + (before == 8 ? "I J" : 10 - before + "<" + back);
            Due.holds(before + " before the border: " + text + " has " + due, text.contains(" " + due + " 2 "));
        }
        // From q on they may go beyond q's part.
        for (int at = 4090; at <= 4096; at++) {
            Recipe recipe = new Recipe().run(1, at).bytes(phrase).run(2, 50).bytes(phrase).run(3, 9);
            Due.holds("q at " + at, Parsed.of(recipe).text().endsWith(" 10<60 3 8<1"));
        }
    }

    private static void candidates() {
        Doc.says(TERMS, "Its CANDIDATES are the latest (most near) of such places, at most 16 of them;");
        for (int n = 14; n <= 18; n++) {
            StringBuilder text = new StringBuilder("abcdefgh");
            for (int i = 0; i < n; i++) {
                text.append("abc").append((char) (65 + i));
            }
            Recipe recipe = new Recipe().run(1, 80).text(text + "abcdefgh").run(2, 50);
            // The place that is the same for longest is behind n others.
            String due = n < 16 ? "8<" + (8 + 4 * n) : "3<4 5<" + (8 + 4 * n);
            String got = Parsed.of(recipe).text();
            Due.holds(n + " before it: " + got + " has " + due, got.endsWith(" " + due + " 2 49<1"));
        }
        // Others that are the same for longer count as well.
        for (int n = 14; n <= 18; n++) {
            StringBuilder text = new StringBuilder("abcdefghij");
            for (int i = 0; i < n; i++) {
                text.append("abcdef").append((char) (65 + i));
            }
            Recipe recipe = new Recipe().run(1, 80).text(text + "abcdefghij").run(2, 50);
            String due = n < 16 ? "10<" + (10 + 7 * n) : "6<7 4<" + (10 + 7 * n);
            String got = Parsed.of(recipe).text();
            Due.holds(n + " of six before it: " + got + " has " + due, got.endsWith(" " + due + " 2 49<1"));
        }
        // Many other places between them do not count, whatever they are.
        for (int seed = 6; seed < 16; seed++) {
            Recipe recipe = new Recipe().run(1, 4096).run(3, 3000).text("PQRSTUVW");
            for (int i = 0; i < 15; i++) {
                recipe.drawn(1000 * seed + i, 1900).text("PQR").run(i, 1);
            }
            String got = Parsed.of(recipe.text("PQRSTUVW").run(2, 3000)).text();
            Due.holds("the 16th far away", got.contains(" 8<" + (8 + 15 * 1904) + " 2 258<1"));
        }
        // Such that are the same for two bytes alone are not among them.
        StringBuilder text = new StringBuilder("abcdefgh");
        for (int i = 0; i < 20; i++) {
            text.append("ab").append((char) (65 + i));
        }
        Recipe recipe = new Recipe().run(1, 80).text(text + "abcdefgh").run(2, 50);
        Due.holds("20 of two", Parsed.of(recipe).text().endsWith(" 8<68 2 49<1"));
    }

    private static void best() {
        Doc.says(TERMS, "the BEST one is that of greatest length, of several the nearest one.");
        String lead = "1 39<1 ";
        itemsAre("the greatest is the farthest", new Recipe().run(1, 40).text("abcdeXabcdYabcZabcdeW"),
                lead + "a b c d e X 4<6 Y 3<5 Z 5<15 W");
        itemsAre("the greatest is in the middle", new Recipe().run(1, 40).text("abcdXabcdeYabcZabcdeW"),
                lead + "a b c d X 4<5 e Y 3<6 Z 5<10 W");
        itemsAre("the greatest is the nearest", new Recipe().run(1, 40).text("abcXabcdYabcdeZabcdeW"),
                lead + "a b c X 3<4 d Y 4<5 e Z 5<6 W");
        itemsAre("three are as great", new Recipe().run(1, 40).text("abcdXabcdYabcdZabcdW"),
                lead + "a b c d X 4<5 Y 4<5 Z 4<5 W");
        itemsAre("the nearest of the greatest", new Recipe().run(1, 40).text("abcdXabcdYabcZabcdW"),
                lead + "a b c d X 4<5 Y 3<5 Z 4<9 W");
    }

    private static void onBehind() {
        Doc.says(TERMS, "In each part from its first place on: if there is no best match at p, its byte is a symbol;"
                + " otherwise the best match's length and distance, and p goes on behind it.");
        String lead = "1 39<1 ";
        itemsAre("a longer match one place on is not looked for", new Recipe().run(1, 40).text("bcdefXabcYabcdefZ"),
                lead + "b c d e f X a b c Y 3<4 3<11 Z");
        itemsAre("places inside a match are found later", new Recipe().run(1, 40).text("abcdefQabcdefRcdeS"),
                lead + "a b c d e f Q 6<7 R 3<5 S");
        itemsAre("the first place of a row", new Recipe().text("aaaaaaaaaaaaaaaa"), "a 15<1");
        Recipe recipe = new Recipe().text("abcd").run(1, 4092).text("abcdX").run(2, 50);
        Due.holds("the first place of a part", Parsed.of(recipe).text().contains(" | 4<4096 X 2 49<1"));
    }

    /** Rows with made parts of many kinds. */
    private static List<Parsed.Part> madeParts() {
        if (MADE.isEmpty()) {
            for (int seed = 0; seed < 40; seed++) {
                int kinds = 4 + seed * 5;
                addMade(new Recipe().bytes(skewed(seed, seed, kinds, 250 + 10 * seed, 2 + seed % 3)));
                addMade(new Recipe().bytes(skewed(seed, 97, 26, 120 + seed, 3)).run(seed, 9).drawn(seed, 20)
                        .bytes(skewed(seed, 97, 26, 150, 3)));
            }
            addMade(new Recipe().text("the quick brown fox jumps over the lazy dog. pack my box with five dozen jugs. "
                    + "how vexingly quick daft zebras jump! the five boxing wizards jump quickly, and so on."));
        }
        return MADE;
    }

    private static final List<Parsed.Part> MADE = new ArrayList<>();

    private static void addMade(Recipe recipe) {
        for (Parsed.Part part : Parsed.of(recipe).parts) {
            if (part.sort == 2) {
                MADE.add(part);
            }
        }
    }

    private static int[] trimmed(int[] lengths, int least) {
        int n = lengths.length;
        while (n > least && lengths[n - 1] == 0) {
            n--;
        }
        return Arrays.copyOf(lengths, n);
    }

    private static void counts() {
        Doc.says(TERMS, "A part's COUNTS are how often symbols, with one 256 at its end, and distances come.");
        boolean endMatters = false;
        for (Parsed.Part part : madeParts()) {
            int[] counts = part.symbolCounts();
            Due.same("256 comes once", counts[256], 1);
            Due.holds("lengths of the symbols that come",
                    Arrays.equals(part.symbols, trimmed(Model.lengths(counts, 15), 257)));
            Due.holds("lengths of the distances that come",
                    Arrays.equals(part.distances, trimmed(Model.lengths(part.distanceCounts(), 15), 1)));
            counts[256] = 2;
            endMatters |= !Arrays.equals(part.symbols, trimmed(Model.lengths(counts, 15), 257));
        }
        Due.holds("it matters that there is one 256", endMatters);
        // Each part has its own counts: one of many a's, then one of other letters.
        Recipe recipe = new Recipe().run(97, 4096).bytes(skewed(5, 110, 12, 300, 3));
        Parsed.Part second = Parsed.of(recipe).parts.get(1);
        Due.same("the second part is made", second.sort, 2);
        Due.same("no a comes in it", second.symbols[97], 0);
    }

    private static void noneAndOne() {
        Doc.says(TERMS, "LENGTHS of codes for counts, with a limit (15, and 7 for the 19): none for a count 0; 1,"
                + " when there is just one that is not;");
        for (Parsed.Part part : madeParts()) {
            int[] counts = part.symbolCounts();
            for (int s = 0; s < part.symbols.length; s++) {
                Due.holds("symbol " + s + " has a code if it comes", part.symbols[s] > 0 == counts[s] > 0);
            }
        }
        // Without a match, with one distance once and twice, and with two distances.
        Recipe[] recipes = {new Recipe().bytes(lead(1)), new Recipe().bytes(lead(2)).run(1, 20),
            new Recipe().bytes(lead(3)).run(1, 20).run(2, 20),
            new Recipe().bytes(lead(4)).run(1, 20).text("121212121212")};
        int[][] due = {{0}, {1}, {1}, {1, 1}};
        for (int i = 0; i < recipes.length; i++) {
            Parsed.Part part = Parsed.of(recipes[i]).parts.get(0);
            Due.same("it is made, " + i, part.sort, 2);
            Due.holds("distances that come, " + i + ": " + part.text(),
                    Arrays.stream(part.distanceCounts()).sum() == (i == 3 ? 2 : i));
            Due.holds("lengths of the distances, " + i, Arrays.equals(part.distances, due[i]));
        }
    }

    /** Letters of which no three come twice, and so without a match. */
    private static byte[] lead(int seed) {
        Random random = new Random(seed);
        Set<Integer> seen = new HashSet<>();
        byte[] bytes = new byte[130];
        for (int i = 0; i < bytes.length; i++) {
            for (int tries = 0; tries < 100; tries++) {
                bytes[i] = (byte) (97 + (int) (16 * random.nextDouble() * random.nextDouble() * random.nextDouble()));
                if (i < 2 || seen.add(bytes[i - 2] << 16 | bytes[i - 1] << 8 | bytes[i])) {
                    break;
                }
            }
        }
        return bytes;
    }

    /** Counts that give codes as long as can be: each is more than all lesser ones before the last one together. */
    private static final int[] STEEP = {1, 1, 3, 4, 7, 11, 18, 29, 47, 76, 123, 199, 322, 521, 843};

    /**
     * A drawn part, and one in which so many letters come as often as STEEP says, and matches of three bytes with the
     * drawn part as often as what is next; with the one 256 that makes a code as long as there are letters, and one
     * more.
     */
    private static Recipe steep(int letters) {
        Recipe recipe = new Recipe().drawn(20261, 4096);
        byte[] drawn = recipe.all();
        Random random = new Random(letters);
        List<Integer> order = new ArrayList<>();
        for (int i = 0; i < letters; i++) {
            order.addAll(Collections.nCopies(STEEP[i], 65 + i));
        }
        Collections.shuffle(order, random);
        int matches = STEEP[letters];
        byte[] both = Arrays.copyOf(drawn, drawn.length + order.size() + 3 * matches);
        Set<Integer> seen = new HashSet<>();
        for (int i = 0; i + 2 < drawn.length; i++) {
            seen.add(three(drawn, i));
        }
        Set<Integer> used = new HashSet<>();
        int at = drawn.length;
        int done = 0;
        for (int i = 0; i < matches; i++) {
            int first = at;
            for (int upTo = order.size() * (i + 1) / matches; done < upTo; done++) {
                both[at++] = order.get(done).byteValue();
            }
            int next = done < order.size() ? order.get(done) : -1;
            int q = random.nextInt(4090);
            while (used.contains(q) || drawn[q + 3] == next || !isNew(both, first, at, drawn, q, seen)) {
                q = random.nextInt(4090);
            }
            used.add(q);
            System.arraycopy(drawn, q, both, at, 3);
            at += 3;
            for (int p = first - 2; p < at - 2; p++) {
                seen.add(three(both, p));
            }
        }
        return recipe.bytes(Arrays.copyOfRange(both, drawn.length, both.length));
    }

    /** Whether no match can begin between two places if three bytes of the drawn ones come behind them. */
    private static boolean isNew(byte[] both, int first, int at, byte[] drawn, int q, Set<Integer> seen) {
        System.arraycopy(drawn, q, both, at, 3);
        Set<Integer> own = new HashSet<>();
        for (int p = first - 2; p < at; p++) {
            if (p >= first && seen.contains(three(both, p)) || !own.add(three(both, p))) {
                return false;
            }
        }
        return true;
    }

    private static int three(byte[] bytes, int i) {
        return (bytes[i] & 255) << 16 | (bytes[i + 1] & 255) << 8 | bytes[i + 2] & 255;
    }

    private static int longestOf(int[] lengths) {
        int longest = 0;
        for (int length : lengths) {
            longest = Math.max(longest, length);
        }
        return longest;
    }

    private static void limit15() {
        Doc.says(TERMS, "with a limit (15,");
        for (int letters = 13; letters <= 14; letters++) {
            Parsed row = Parsed.of(steep(letters));
            Parsed.Part part = row.parts.get(1);
            Due.same("it is made", part.sort, 2);
            Due.same("matches of three", part.symbolCounts()[257], STEEP[letters]);
            Due.same("the longest code", longestOf(part.symbols), letters + 1);
            int[] counts = part.symbolCounts();
            Due.holds("its lengths", Arrays.equals(part.symbols, trimmed(Model.lengths(counts, 15), 257)));
            Due.holds("with a limit one less they are others", letters < 14
                    || !Arrays.equals(part.symbols, trimmed(Model.lengths(counts, 14), 257)));
        }
    }

    private static void limit7() {
        Doc.says(TERMS, "and 7 for the 19)");
        // {seed, first, kinds, bytes, power}: without the limit the 19 would have a code of eight bits.
        int[][] draws = {{140, 23, 165, 536, 2}, {680, 19, 204, 683, 2}, {2857, 29, 171, 843, 1},
            {3571, 7, 180, 1084, 2}};
        for (int[] draw : draws) {
            Recipe recipe = new Recipe().run(250, 4096).bytes(skewed(draw[0], draw[1], draw[2], draw[3], draw[4]));
            Parsed.Part part = Parsed.of(recipe).parts.get(1);
            int[] counts = toldCounts(part);
            Due.same("it is made", part.sort, 2);
            Due.same("the longest code of the 19", longestOf(part.sizes), 7);
            Due.same("without the limit", longestOf(Model.lengths(counts, 15)), 8);
            Due.holds("its lengths", Arrays.equals(part.sizes, Model.lengths(counts, 7)));
        }
    }

    private static int[] toldCounts(Parsed.Part part) {
        int[] counts = new int[19];
        for (int[] each : part.told) {
            counts[each[0]]++;
        }
        return counts;
    }

    /** Lengths as the document has them, but where counts are the same pairs come before symbols. */
    private static int[] pairsFirst(int[] counts, int limit) {
        List<int[]> first = new ArrayList<>();
        for (int s = 0; s < counts.length; s++) {
            if (counts[s] > 0) {
                first.add(new int[] {counts[s], s});
            }
        }
        first.sort((x, y) -> Integer.compare(x[0], y[0]));
        int[] lengths = new int[counts.length];
        if (first.size() < 2) {
            return Model.lengths(counts, limit);
        }
        List<int[]> list = first;
        for (int k = 1; k < limit; k++) {
            List<int[]> next = new ArrayList<>();
            for (int i = 0; i + 1 < list.size(); i += 2) {
                int[] one = list.get(i);
                int[] other = list.get(i + 1);
                int[] pair = Arrays.copyOf(one, one.length + other.length - 1);
                System.arraycopy(other, 1, pair, one.length, other.length - 1);
                pair[0] = one[0] + other[0];
                next.add(pair);
            }
            next.addAll(first);
            next.sort((x, y) -> Integer.compare(x[0], y[0]));
            list = next;
        }
        for (int i = 0; i < 2 * first.size() - 2; i++) {
            for (int k = 1; k < list.get(i).length; k++) {
                lengths[list.get(i)[k]]++;
            }
        }
        return lengths;
    }

    private static void lists() {
        Doc.says(TERMS, "otherwise by LISTS: the first one has the symbols with counts, by rising counts, the same by"
                + " number; each next one, limit lists in all, has these symbols again, and PAIRS: the first and"
                + " second item of the list before, the third and fourth, and so on, as items with the counts of both"
                + " together; by rising counts, of the same a symbol before pairs, pairs in their order.");
        int pairsMatter = 0;
        int numbersMatter = 0;
        for (Parsed.Part part : madeParts()) {
            int[] counts = part.symbolCounts();
            int[] due = trimmed(Model.lengths(counts, 15), 257);
            Due.holds("lengths by lists", Arrays.equals(part.symbols, due));
            pairsMatter += Arrays.equals(due, trimmed(pairsFirst(counts, 15), 257)) ? 0 : 1;
            int[] turned = new int[286];
            for (int s = 0; s < 286; s++) {
                turned[285 - s] = counts[s];
            }
            int[] turnedLengths = Model.lengths(turned, 15);
            for (int s = 0; s < due.length; s++) {
                numbersMatter += turnedLengths[285 - s] == due[s] ? 0 : 1;
            }
        }
        Due.holds("it matters that a symbol is before pairs", pairsMatter > 5);
        Due.holds("it matters that the same are by number", numbersMatter > 5);
        // By hand: of 1, 1, 2 and 2 the two of 2 make a pair before the pair of 1 and 1 comes to it.
        Due.holds("1 1 2 2", Arrays.equals(Model.lengths(new int[] {1, 1, 2, 2}, 15), new int[] {2, 2, 2, 2}));
        Due.holds("1 1 1 with a limit", Arrays.equals(Model.lengths(new int[] {1, 1, 1}, 15), new int[] {2, 2, 1}));
        Due.holds("1 1 2 4 and the limit 2", Arrays.equals(Model.lengths(new int[] {1, 1, 2, 4}, 2),
                new int[] {2, 2, 2, 2}));
        Due.holds("1 1 2 4 and the limit 3", Arrays.equals(Model.lengths(new int[] {1, 1, 2, 4}, 3),
                new int[] {3, 3, 2, 1}));
    }

    /** How many bits a code takes that is as short as can be. */
    private static int leastBits(int[] counts) {
        PriorityQueue<Integer> left = new PriorityQueue<>();
        for (int n : counts) {
            if (n > 0) {
                left.add(n);
            }
        }
        int bits = left.size() == 1 ? left.peek() : 0;
        while (left.size() > 1) {
            int both = left.poll() + left.poll();
            bits += both;
            left.add(both);
        }
        return bits;
    }

    private static int bitsOf(int[] lengths, int[] counts) {
        int bits = 0;
        for (int s = 0; s < lengths.length; s++) {
            bits += lengths[s] * counts[s];
        }
        return bits;
    }

    private static void leastCost() {
        Doc.says(TERMS, "Of the last list the first 2 m - 2 items are taken, m being how many symbols have counts; a"
                + " pair that is taken takes both of its items; a symbol's length is how often it is taken.");
        for (Parsed.Part part : madeParts()) {
            Due.same("bits of the symbols", bitsOf(part.symbols, part.symbolCounts()), leastBits(part.symbolCounts()));
            Due.same("bits of the distances", bitsOf(part.distances, part.distanceCounts()),
                    leastBits(part.distanceCounts()));
            int sum = 0;
            for (int length : part.symbols) {
                sum += length > 0 ? 32768 >> length : 0;
            }
            Due.same("the code is full", sum, 32768);
        }
    }

    private static void headSmall() {
        Doc.says(TERMS, "A made part has h and d as small as the lengths that are not 0 allow, c likewise;");
        Set<Integer> seenC = new HashSet<>();
        Set<Integer> seenH = new HashSet<>();
        List<Parsed.Part> parts = new ArrayList<>(madeParts());
        parts.add(Parsed.of(steep(14)).parts.get(1));
        // Matches from 28672 away, and one of 258 bytes.
        byte[] far = new Recipe().drawn(3, 90).all();
        Recipe recipe = new Recipe().bytes(far).run(7, 7 * 4096 - 90).bytes(skewed(2, 97, 12, 200, 3));
        for (int i = 0; i < 9; i++) {
            recipe.bytes(Arrays.copyOfRange(far, 10 * i, 10 * i + 5)).text("" + i);
        }
        parts.add(Parsed.of(recipe.run(8, 300)).parts.get(7));
        int farest = 0;
        for (Parsed.Part part : parts) {
            Due.same("it is made", part.sort, 2);
            Due.holds("h " + part.h, part.h == 0 || part.symbols[256 + part.h] > 0);
            Due.holds("d " + part.d, part.d == 0 || part.distances[part.d] > 0);
            Due.holds("c " + part.c, part.c == 0 || part.sizes[Made.ORDER[part.c + 3]] > 0);
            seenC.add(part.c);
            seenH.add(part.h);
            farest = Math.max(farest, part.d);
        }
        Due.holds("h 0 and 1 and 28 or 29 were seen: " + seenH, seenH.contains(0) && seenH.contains(1)
                && (seenH.contains(28) || seenH.contains(29)));
        Due.same("the greatest d", farest, 29);
        Due.holds("c 15 and less were seen: " + seenC, seenC.contains(15) && seenC.size() > 4);
    }

    /** How a stretch of lengths from a place on is told: the 19, and what is behind them. */
    private static String toldFrom(Parsed.Part part, int from, int n) {
        StringBuilder text = new StringBuilder();
        int at = 0;
        for (int[] each : part.told) {
            if (at >= from && at < from + n) {
                text.append(text.length() > 0 ? " " : "").append(each[0]);
                text.append(each[0] < 16 ? "" : "+" + each[1]);
            }
            at += each[0] < 16 ? 1 : each[0] < 18 ? 3 + each[1] : 11 + each[1];
        }
        return text.toString();
    }

    private static void wholeStretches() {
        Doc.says(TERMS, "the row of lengths is told so: of a stretch of the same ones, as long as it goes");
        int longest = 0;
        for (Parsed.Part part : madeParts()) {
            int told = 0;
            for (int[] stretch : stretchesOf(part)) {
                String got = toldFrom(part, stretch[0], stretch[1]);
                String due = stretch[2] == 0 ? zerosBy(stretch[1]) : sameBy(stretch[1], stretch[2]);
                Due.holds(stretch[1] + " of " + stretch[2] + " by " + got + ", due is " + due, got.equals(due));
                told += due.split(" ").length;
                longest = Math.max(longest, stretch[1]);
            }
            Due.same("nothing else is told", part.told.size(), told);
        }
        Due.holds("long stretches were seen: " + longest, longest > 150);
    }

    private static String zerosBy(int n) {
        int left = n % 138;
        String rest = left >= 11 ? "18+" + (left - 11) : left >= 3 ? "17+" + (left - 3) : "0 ".repeat(left);
        return ("18+127 ".repeat(n / 138) + rest).trim();
    }

    private static String sameBy(int n, int length) {
        int left = (n - 1) % 6;
        String rest = left >= 3 ? "16+" + (left - 3) : (length + " ").repeat(left);
        return (length + " " + "16+3 ".repeat((n - 1) / 6) + rest).trim();
    }

    private static void zerosTold() {
        Doc.says(TERMS, "0 by 18 as often as 11 are left (138 at most each), then by 17 if 3 are left, then one by"
                + " one;");
        int[] gaps = {1, 2, 3, 4, 9, 10, 11, 12, 137, 138, 139, 140, 141, 148, 149, 150, 151};
        String[] due = {"0", "0 0", "17+0", "17+1", "17+6", "17+7", "18+0", "18+1", "18+126", "18+127", "18+127 0",
            "18+127 0 0", "18+127 17+0", "18+127 17+7", "18+127 18+0", "18+127 18+1", "18+127 18+2"};
        for (int i = 0; i < gaps.length; i++) {
            // Two groups of letters, and between them a gap of symbols that do not come.
            byte[] bytes = skewed(i, 20, 24, 400, 2);
            for (int k = 0; k < bytes.length; k++) {
                bytes[k] += (byte) (bytes[k] >= 32 ? gaps[i] : 0);
            }
            bytes[0] = 31;
            bytes[1] = (byte) (32 + gaps[i]);
            Parsed.Part part = Parsed.of(new Recipe().bytes(bytes)).parts.get(0);
            Due.same("it is made", part.sort, 2);
            Due.holds("there is the gap", part.symbols[31] > 0 && part.symbols[32 + gaps[i]] > 0);
            String told = toldFrom(part, 32, gaps[i]);
            Due.holds(gaps[i] + " zeros by " + told + ", due is " + due[i], told.equals(due[i]));
        }
        // From the first symbol on, and up to 256.
        for (int first = 0; first <= 12; first++) {
            byte[] bytes = skewed(first, first, 20, 300, 2);
            bytes[0] = (byte) first;
            Parsed.Part part = Parsed.of(new Recipe().bytes(bytes)).parts.get(0);
            String told = toldFrom(part, 0, first);
            String zeros = first == 0 ? "" : first < 3 ? "0 0".substring(0, 2 * first - 1)
                    : first < 11 ? "17+" + (first - 3) : "18+" + (first - 11);
            Due.holds(first + " zeros at first by " + told, told.equals(zeros));
        }
    }

    /** Stretches of the same lengths: {from, how many, the length}, both rows of lengths being one. */
    private static List<int[]> stretchesOf(Parsed.Part part) {
        int[] all = Arrays.copyOf(part.symbols, part.symbols.length + part.distances.length);
        System.arraycopy(part.distances, 0, all, part.symbols.length, part.distances.length);
        List<int[]> stretches = new ArrayList<>();
        for (int i = 0; i < all.length;) {
            int n = 1;
            while (i + n < all.length && all[i + n] == all[i]) {
                n++;
            }
            stretches.add(new int[] {i, n, all[i]});
            i += n;
        }
        return stretches;
    }

    private static final String[] SAME = {"", "L", "L L", "L L L", "L 16+0", "L 16+1", "L 16+2", "L 16+3", "L 16+3 L",
        "L 16+3 L L", "L 16+3 16+0", "L 16+3 16+1", "L 16+3 16+2", "L 16+3 16+3", "L 16+3 16+3 L", "L 16+3 16+3 L L",
        "L 16+3 16+3 16+0"};

    private static void sameTold() {
        Doc.says(TERMS, "others once, then by 16 as often as 3 are left (6 at most each), then one by one;");
        boolean[] seen = new boolean[SAME.length];
        List<Parsed.Part> parts = new ArrayList<>(madeParts());
        for (int kinds = 8; kinds <= 40; kinds++) {
            for (int times = 7; times <= 10; times++) {
                parts.add(Parsed.of(new Recipe().bytes(evenly(kinds, times))).parts.get(0));
            }
        }
        for (Parsed.Part part : parts) {
            if (part.sort != 2) {
                continue;
            }
            for (int[] stretch : stretchesOf(part)) {
                if (stretch[2] > 0 && stretch[1] < SAME.length) {
                    String told = toldFrom(part, stretch[0], stretch[1]);
                    String due = SAME[stretch[1]].replace("L", "" + stretch[2]);
                    Due.holds(stretch[1] + " the same by " + told + ", due is " + due, told.equals(due));
                    seen[stretch[1]] = true;
                }
            }
        }
        for (int n = 1; n < SAME.length; n++) {
            Due.holds("stretches of " + n + " were seen", seen[n]);
        }
    }

    /** So many letters side by side, each as often, and some others. */
    private static byte[] evenly(int kinds, int times) {
        List<Integer> all = new ArrayList<>();
        for (int i = 0; i < kinds; i++) {
            all.addAll(Collections.nCopies(times, 160 + i));
        }
        for (int i = 0; i < 30; i++) {
            all.addAll(Collections.nCopies(1 + i % 3, 3 * i));
        }
        Collections.shuffle(all, new Random(kinds));
        byte[] bytes = new byte[all.size()];
        for (int i = 0; i < bytes.length; i++) {
            bytes[i] = all.get(i).byteValue();
        }
        return bytes;
    }

    private static void overTheBorder() {
        Doc.says(TERMS, "(also over the border of symbols and distances),");
        Set<Integer> seen = new HashSet<>();
        for (int seed = 0; seed < 400 && seen.size() < 3; seed++) {
            byte[] data = skewed(seed, 97, 10 + seed % 8, 90 + seed % 60, 2);
            Parsed.Part part = new Parsed(Model.pack(data)).parts.get(0);
            for (int[] stretch : part.sort == 2 ? stretchesOf(part) : new ArrayList<int[]>()) {
                int border = part.symbols.length;
                boolean over = stretch[0] < border && stretch[0] + stretch[1] > border;
                if (over && stretch[1] < SAME.length && seen.add(Math.min(stretch[1], 4))) {
                    Parsed.Part own = Parsed.of(new Recipe().bytes(data)).parts.get(0);
                    String told = toldFrom(own, stretch[0], stretch[1]);
                    String due = SAME[stretch[1]].replace("L", "" + stretch[2]);
                    Due.holds(stretch[1] + " over the border by " + told + ", due is " + due, told.equals(due));
                }
            }
        }
        Due.holds("stretches over the border were seen, some told by 16: " + seen, seen.contains(4));
    }

    /** The most frequent symbol is the last one, and there are two distances: all three have the length 1. */
    private static void onesOverTheBorder() {
        Doc.says(TERMS, "(also over the border of symbols and distances),");
        Recipe recipe = new Recipe().run('a', 1 + 11 * 258).run('b', 1).text("ab".repeat(628));
        Parsed.Part part = Parsed.of(recipe).parts.get(0);
        Due.same("it is made", part.sort, 2);
        Due.holds("lengths 1, 1 and 1", part.h == 29 && part.symbols[285] == 1
                && Arrays.equals(part.distances, new int[] {1, 1}));
        String told = toldFrom(part, 285, 3);
        Due.holds("told by " + told, told.equals("1 1 1"));
    }

    /** All bytes come, and those side by side not as often. */
    private static void manyTold() {
        Doc.says(TERMS, "the row of lengths is told so:");
        List<Integer> all = new ArrayList<>();
        for (int b = 0; b < 256; b++) {
            all.addAll(Collections.nCopies(b % 2 == 0 ? 3 : 16, b));
        }
        Collections.shuffle(all, new Random(9));
        byte[] bytes = new byte[all.size()];
        for (int i = 0; i < bytes.length; i++) {
            bytes[i] = all.get(i).byteValue();
        }
        Parsed.Part part = Parsed.of(new Recipe().bytes(bytes)).parts.get(0);
        Due.same("it is made", part.sort, 2);
        Due.holds("so many are told: " + part.told.size(), part.told.size() > 257);
        Due.holds("its lengths", Arrays.equals(part.symbols, trimmed(Model.lengths(part.symbolCounts(), 15), 257)));
    }

    private static void sizesFromTold() {
        Doc.says(TERMS, "the lengths of the 19 come from the counts of what is told so.");
        for (Parsed.Part part : madeParts()) {
            Due.holds("lengths of the 19", Arrays.equals(part.sizes, Model.lengths(toldCounts(part), 7)));
        }
    }

    private static void storedOrNot() {
        Doc.says(TERMS, "A part is stored, if that takes no more bits (its first three and those up to the end of a"
                + " byte among them) than the others,");
        boolean[] seen = new boolean[8];
        for (int lead = 0; lead < 40; lead++) {
            // The first part's bits, and so the bits up to the byte in the second one.
            Recipe first = new Recipe().run(7, lead).run(9, 300 - lead).bytes(skewed(lead, 150, 100, lead, 1))
                    .run(7, 3796 - lead);
            Parsed.Part part = Parsed.of(first.run(1, 99)).parts.get(1);
            int padding = -(part.begin + 3) & 7;
            for (int high = 23; high < 36 && !seen[padding]; high++) {
                storedFrom(lead, high, padding);
            }
            seen[padding] = true;
        }
        for (int padding = 0; padding < 8; padding++) {
            Due.holds(padding + " bits up to the byte were seen", seen[padding]);
        }
        withMatches();
        // {seed, bytes, how many bits more it takes stored than made}
        int[][] draws = {{0, 148, 1}, {1, 148, 1}, {5, 144, 1}, {3, 168, 0}, {28, 140, 0}, {31, 148, 0}, {33, 136, 0},
            {14, 144, -1}, {15, 148, -1}, {23, 140, -1}};
        for (int[] draw : draws) {
            Recipe recipe = new Recipe().run(7, 4096).bytes(skewed(draw[0], 144, 112, draw[1], 1));
            Parsed.Part part = Parsed.of(recipe).parts.get(1);
            Model.pack(recipe.all());
            Due.same("stored takes more than made by", Model.latestBits[0] - Model.latestBits[2], draw[2]);
            Due.same("so it is", part.sort, draw[2] <= 0 ? 0 : 2);
        }
    }

    /** Behind a first part bytes of eight bits and of nine, none twice: a fixed part takes 8 n + high + 10 bits. */
    private static void storedFrom(int lead, int high, int padding) {
        byte[] bytes = new byte[30 + high];
        for (int i = 0; i < bytes.length; i++) {
            bytes[i] = (byte) (i < high ? 144 + 3 * i : 20 + 4 * (i - high));
        }
        Recipe recipe = new Recipe().run(7, lead).run(9, 300 - lead).bytes(skewed(lead, 150, 100, lead, 1))
                .run(7, 3796 - lead).bytes(bytes);
        Parsed.Part part = Parsed.of(recipe).parts.get(1);
        boolean stored = 3 + padding + 32 + 8 * bytes.length <= 8 * bytes.length + high + 10;
        Due.same(high + " of nine bits, " + padding + " up to the byte", part.sort, stored ? 0 : 1);
        Due.same("bits up to the byte that are not 0", part.padding, 0);
        Due.same("its bits", part.bits, 8 * bytes.length + (stored ? 3 + padding + 32 : high + 10));
    }

    /** The numbers behind lengths and distances are among the bits that are compared. */
    private static void withMatches() {
        byte[] drawn = new Recipe().drawn(77, 4096).all();
        // {bytes of nine bits, matches, how many bits more it takes stored than fixed or made}
        int[][] cases = {{60, 12, -1}, {62, 13, -1}, {65, 14, -1}, {83, 14, -1}, {61, 13, 0}, {70, 16, 0}, {74, 17, 0},
            {75, 16, 0}, {60, 13, 1}, {66, 15, 1}, {81, 15, 1}, {86, 15, 1}};
        for (int[] each : cases) {
            Recipe recipe = new Recipe().run(9, 12288).drawn(77, 4096)
                    .bytes(highAndMatches(drawn, each[0], each[1]));
            List<Parsed.Part> parts = Parsed.of(recipe).parts;
            Model.pack(recipe.all());
            int over = Model.latestBits[0] - Math.min(Model.latestBits[1], Model.latestBits[2]);
            Due.same("stored takes more than the others by", over, each[2]);
            Due.holds("so it is stored, or not", parts.get(4).sort == 0 == over <= 0);
        }
    }

    /** Bytes of which no two are the same, and matches of three bytes with the drawn ones between them. */
    private static byte[] highAndMatches(byte[] drawn, int high, int matches) {
        List<Integer> order = new ArrayList<>();
        for (int b = 144; b < 256; b++) {
            order.add(b);
        }
        Collections.shuffle(order, new Random(0));
        byte[] bytes = new byte[high + 3 * matches];
        int at = 0;
        int done = 0;
        for (int i = 0; i < matches; i++) {
            System.arraycopy(drawn, 1500 + 50 * i, bytes, at, 3);
            at += 3;
            for (int upTo = high * (i + 1) / matches; done < upTo; done++) {
                bytes[at++] = order.get(done).byteValue();
            }
        }
        return bytes;
    }

    private static void fixedOrMade() {
        Doc.says(TERMS, "otherwise fixed, if that takes no more than made, otherwise made.");
        // {seed, bytes, how many bits more it takes fixed than made}
        int[][] draws = {{8, 44, -1}, {135, 40, -1}, {617, 40, -1}, {886, 40, -1}, {119, 40, 0}, {137, 40, 0}, {206,
            40, 0},
            {1344, 44, 0}, {59, 40, 1}, {341, 40, 1}, {451, 40, 1}, {571, 40, 1}};
        for (int[] draw : draws) {
            Recipe recipe = new Recipe().run(7, 4096).bytes(skewed(draw[0], 97, 26, draw[1], 2));
            Parsed.Part part = Parsed.of(recipe).parts.get(1);
            Model.pack(recipe.all());
            Due.same("fixed takes more than made by", Model.latestBits[1] - Model.latestBits[2], draw[2]);
            Due.same("so it is", part.sort, draw[2] <= 0 ? 1 : 2);
            // What the part before was told by does not matter.
            Recipe other = new Recipe().bytes(skewed(draw[0], 150, 100, 700, 2)).run(7, 3396)
                    .bytes(skewed(draw[0], 97, 26, draw[1], 2));
            List<Parsed.Part> parts = Parsed.of(other).parts;
            Due.same("the part before is made", parts.get(0).sort, 2);
            Due.same("so it is behind that, too", parts.get(1).sort, draw[2] <= 0 ? 1 : 2);
            Due.same("its bits", part.bits, 3 + Math.min(Model.latestBits[1], Model.latestBits[2]));
        }
    }
}
