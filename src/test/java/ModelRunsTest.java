import java.util.Random;

/** Runs of calls drawn from seeds, each answer compared with the model's. */
final class ModelRunsTest {
    private static final int RUNS = 160;
    /** An object is used for 512 calls at most; what is begun before this many ends before those. */
    private static final int MOST_CALLS = 500;

    private final SharedBlocks own = new SharedBlocks();
    private final Model model = new Model();
    private final Random random;
    private final String name;
    private int calls = 0;
    private int puts = 0;

    private ModelRunsTest(long seed) {
        random = new Random(seed);
        name = "seed " + seed + ": ";
    }

    public static void main(String[] args) {
        int runs = args.length > 0 ? Integer.parseInt(args[0]) : RUNS;
        for (int seed = 0; seed < runs && Due.wrong() == 0; seed++) {
            new ModelRunsTest(seed).run();
        }
        System.out.println("parts stored " + Model.seenSorts[0] + ", fixed " + Model.seenSorts[1] + ", made "
                + Model.seenSorts[2] + "; the longest code has " + Model.deepestCode + " bits");
        Due.end();
    }

    private void run() {
        while (calls < MOST_CALLS && Due.wrong() == 0) {
            int kind = random.nextInt(100);
            if (kind < 30) {
                addBytes();
            } else if (kind < 36 && puts < 8) {
                putAll();
            } else if (kind < 40) {
                clear(file());
            } else if (kind < 44) {
                spoil();
            } else if (kind < 65) {
                ask();
            } else {
                readSome();
            }
        }
    }

    private int file() {
        int kind = random.nextInt(60);
        return kind == 0 ? -1 : kind == 1 ? 64 : kind < 40 ? random.nextInt(6) : random.nextInt(64);
    }

    private int edge(int least, int most) {
        int kind = random.nextInt(24);
        if (kind < 4) {
            return new int[] {least - 1, least, most, most + 1}[kind];
        }
        return least + random.nextInt(most - least + 1);
    }

    private void due(String call, long got, long want) {
        calls++;
        Due.same(name + "call " + calls + " " + call, got, want);
    }

    private void addBytes() {
        int kind = random.nextInt(10);
        if (kind < 2) {
            int sort = edge(0, 1);
            int b = random.nextInt(3) == 0 ? random.nextInt() : random.nextInt(4);
            int n = random.nextInt(8) == 0 ? edge(1, 65536) : edge(1, 300);
            int file = file();
            if (random.nextInt(4) == 0) {
                n = 4096 * (1 + random.nextInt(2)) + random.nextInt(3) - 1;
            }
            due("fill", own.fill(file, sort, b, n), model.fill(file, sort, b, n));
            return;
        }
        int alphabet = 1 + random.nextInt(random.nextBoolean() ? 4 : 40);
        int feeds = kind == 9 ? 130 : 1 + random.nextInt(6);
        for (int i = 0; i < feeds && calls < MOST_CALLS; i++) {
            feed(edge(1, 8), alphabet);
        }
        int file = file();
        int times = random.nextInt(3) == 0 ? edge(1, 64) : 1 + random.nextInt(3);
        due("write", own.write(file, times), model.write(file, times));
        if (random.nextInt(5) == 0) {
            due("write", own.write(file, times), model.write(file, times));
        }
    }

    private void feed(int n, int alphabet) {
        long bytes = 0;
        for (int i = 0; i < 8; i++) {
            int skewed = (int) (alphabet * random.nextDouble() * random.nextDouble());
            bytes = bytes << 8 | (alphabet > 4 ? skewed * 7 % 256 : skewed);
        }
        due("feed", own.feed(bytes, n), model.feed(bytes, n));
    }

    private void putAll() {
        int log = random.nextInt(3) == 0 ? edge(12, 16) : 12 + random.nextInt(2);
        boolean packing = random.nextInt(5) > 0;
        boolean fragments = random.nextInt(3) > 0;
        due("put", own.put(log, packing, fragments), model.put(log, packing, fragments));
        puts++;
        for (int i = 0; i < 10 && calls < MOST_CALLS; i++) {
            int place = random.nextInt(model.size() / 8 + 2);
            due("word", own.word(place), model.word(place));
        }
    }

    private void clear(int file) {
        due("clear", own.clear(file), model.clear(file));
    }

    private void spoil() {
        int kind = random.nextInt(12);
        if (kind == 0) {
            int n = random.nextInt(4) == 0 ? edge(0, model.size()) : model.size() - random.nextInt(20);
            due("cut", own.cut(n), model.cut(n));
            return;
        }
        int i = edge(0, Math.max(model.size() - 1, 0));
        int b = random.nextInt();
        due("patch", own.patch(i, b), model.patch(i, b));
    }

    private void ask() {
        int file = file();
        int what = edge(0, 6);
        due("about " + file + " " + what, own.about(file, what), model.about(file, what));
        int i = edge(0, 3);
        due("number", own.number(file, i), model.number(file, i));
        if (random.nextInt(3) == 0) {
            int bit = edge(0, 1);
            due("fragment", own.fragment(i, bit), model.fragment(i, bit));
            due("fragments", own.fragments(), model.fragments());
            due("size", own.size(), model.size());
            int at = random.nextInt(5) == 0 ? random.nextInt() : edge(0, model.size() / 8);
            due("word", own.word(at), model.word(at));
        }
    }

    private void readSome() {
        int file = file();
        int bytes = file >= 0 && file < 64 ? model.about(file, 1) : 10;
        int from = random.nextInt(20) == 0 ? random.nextInt() : edge(0, bytes);
        int n = random.nextBoolean() ? edge(0, 4096) : edge(0, 40);
        due("read " + file + " " + from + " " + n, own.read(file, from, n), model.read(file, from, n));
        due("taken", own.taken(), model.taken());
        for (int i = 0; i < 2; i++) {
            int place = i == 0 ? 0 : edge(0, n / 8 + 1);
            due("out", own.out(place), model.out(place));
        }
    }
}
