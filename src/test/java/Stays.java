import java.util.ArrayList;
import java.util.List;

/**
 * Refused calls: what they answer, and that they leave everything else as it was. Two objects are made alike, one of
 * them gets the refused call, and then both are looked at; an object has 512 calls, so each look takes new ones.
 */
final class Stays {
    interface Start {
        SharedBlocks make();
    }

    interface Call {
        long on(SharedBlocks x);
    }

    private interface Look {
        void at(SharedBlocks x, List<Long> seen);
    }

    private static final Look[] LOOKS = {Stays::facts, Stays::otherFacts, Stays::layout, Stays::words, Stays::outs,
        Stays::reads, Stays::bytes, Stays::tape};

    private Stays() {
    }

    /** A call that is refused and changes nothing. */
    static void refused(String name, Start start, Call call, int due) {
        compare(name, start, call, x -> 0, due);
        SharedBlocks x = start.make();
        int before = x.taken();
        call.on(x);
        Due.same(name + ": taken() stays", x.taken(), before);
    }

    /** A refused write: the tape is used up, as by one into a file that is cleared again. */
    static void refusedWrite(String name, Start start, int file, int times, int due) {
        Call instead = x -> {
            int spare = 0;
            while (spare < 63 && x.about(spare, 0) > 0) {
                spare++;
            }
            x.clear(spare);
            x.write(spare, 1);
            return x.clear(spare);
        };
        compare(name, start, x -> x.write(file, times), instead, due);
        SharedBlocks x = start.make();
        int before = x.taken();
        x.write(file, times);
        Due.same(name + ": taken() stays", x.taken(), before);
        Due.same(name + ": the tape is used up", x.feed(0, 1), 1);
    }

    /** A refused read: nothing was taken then. */
    static void refusedRead(String name, Start start, int file, int from, int n, int due) {
        compare(name, start, x -> x.read(file, from, n), x -> 0, due);
        SharedBlocks x = start.make();
        Due.holds(name + ": the read before took something", x.taken() > 0);
        x.read(file, from, n);
        Due.same(name + ": taken()", x.taken(), 0);
    }

    private static void compare(String name, Start start, Call call, Call instead, int due) {
        for (Look look : LOOKS) {
            SharedBlocks one = start.make();
            SharedBlocks other = start.make();
            Due.same(name, call.on(one), due);
            instead.on(other);
            List<Long> seen = new ArrayList<>();
            List<Long> before = new ArrayList<>();
            look.at(one, seen);
            look.at(other, before);
            Due.holds(name + ": it leaves everything as it was", seen.equals(before));
        }
    }

    private static void facts(SharedBlocks x, List<Long> seen) {
        factsFrom(0, x, seen);
    }

    private static void otherFacts(SharedBlocks x, List<Long> seen) {
        factsFrom(32, x, seen);
    }

    private static void factsFrom(int first, SharedBlocks x, List<Long> seen) {
        for (int file = first; file < first + 32; file++) {
            for (int what = 0; what < 7; what++) {
                seen.add((long) x.about(file, what));
            }
        }
    }

    private static void layout(SharedBlocks x, List<Long> seen) {
        seen.add((long) x.size());
        seen.add((long) x.fragments());
        for (int i = 0; i < 64; i++) {
            seen.add((long) x.fragment(i, 0));
            seen.add((long) x.fragment(i, 1));
            seen.add((long) x.number(i, 0));
            seen.add((long) x.number(i, 1));
        }
    }

    private static void words(SharedBlocks x, List<Long> seen) {
        for (int i = 0; i < 200; i++) {
            seen.add(x.word(i));
        }
        int size = x.size();
        for (int i = 0; i <= 40; i++) {
            seen.add(x.word(size / 8 - i));
        }
    }

    private static void outs(SharedBlocks x, List<Long> seen) {
        for (int i = 0; i < 200; i++) {
            seen.add(x.out(i));
        }
        seen.add(x.out(511));
    }

    private static void reads(SharedBlocks x, List<Long> seen) {
        for (int file = 0; file < 64; file += file < 8 ? 1 : 11) {
            for (int from = 0; from <= 8192; from += 4096) {
                seen.add((long) x.read(file, from, 4096));
                seen.add((long) x.taken());
                seen.add(x.out(0));
                seen.add(x.out(400));
            }
        }
    }

    /** The files' bytes, by putting them again. */
    private static void bytes(SharedBlocks x, List<Long> seen) {
        int size = x.put(12, false, false);
        seen.add((long) size);
        for (int i = 0; i < 64; i++) {
            seen.add((long) x.about(i, 2));
            seen.add((long) x.about(i, 3));
        }
        for (int i = 0; i < 100; i++) {
            seen.add(x.word(size / 100 * i / 8));
            seen.add(x.word(size / 8 - i));
        }
    }

    /** The tape's bytes, by putting them alone. */
    private static void tape(SharedBlocks x, List<Long> seen) {
        for (int file = 0; file < 64; file++) {
            x.clear(file);
        }
        seen.add((long) x.write(0, 1));
        seen.add((long) x.put(12, false, false));
        for (int i = 0; i < 128; i++) {
            seen.add(x.word(i));
        }
    }
}
