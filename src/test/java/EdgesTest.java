/** Each sentence of the document that names an edge, by a test of its own that names the sentence. */
final class EdgesTest {
    private EdgesTest() {
    }

    public static void main(String[] args) {
        wholeOfIt();
        FileEdges.run();
        PutEdges.run();
        RowEdges.run();
        ReadEdges.run();
        FormatEdges.run();
        FaultEdges.run();
        PackEdges.run();
        Doc.allNamed();
        Due.end();
    }

    private static void wholeOfIt() {
        Doc.says("What it is", "The data of a compressed file system for reading only: files are cut in blocks, rests"
                + " of them come together in fragments, blocks of zeros take nothing, files with the same bytes share;"
                + " all is packed where that is shorter, and any stretch of a file is read back, also from data that"
                + " was spoilt, which is told.");
        SharedBlocks x = new SharedBlocks();
        for (int file = 0; file < 2; file++) {
            x.fill(file, 0, 0, 4096);
            x.fill(file, 0, 97, 4096);
            x.fill(file, 1, 5, 50);
        }
        x.fill(2, 1, 6, 60);
        int size = x.put(12, true, true);
        Due.same("blocks", x.about(0, 3), 2);
        Due.same("zeros take nothing", x.number(0, 0), 0);
        Due.holds("packed where that is shorter", x.number(0, 1) < 100);
        Due.same("as it is where it is not", x.fragment(0, 1), 16777216 + 110);
        Due.same("rests together", x.about(2, 5), 50);
        Due.same("files with the same bytes share", x.about(1, 2) - x.about(0, 2), 0);
        Due.same("nothing else is there", size, x.number(0, 1) + 110);
        Due.same("a stretch", x.read(1, 4094, 4), 4);
        Due.same("its bytes", x.out(0), 0x61610000L);
        x.patch(5, x.patch(5, 0) + 1);
        Due.same("what was spoilt is told", x.read(0, 4094, 4), SharedBlocks.SPOILT);
        Due.same("the others are read", x.read(0, 0, 4096), 4096);
    }
}
