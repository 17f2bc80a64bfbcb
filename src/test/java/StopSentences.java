import java.util.List;

/** Promise 5: what an end of extract() leaves, and errorBlock(). */
final class StopSentences extends Sentences {
    /** Blocks that stop with an error at a block, with so many nodes read before it. */
    record Stop(String what, int error, int block, int nodes, int[]... blocks) {
    }

    private StopSentences() {
    }

    static void run() {
        section("Promise 5: extract and errorBlock");
        says("On success: `errorBlock()` becomes -1,", StopSentences::success);
        says("and the answer is the extracted count.", StopSentences::counts);
        says("On a stop with an error: the nodes appended before the error remain in the extracted tree,", StopSentences::remain);
        says("`errorBlock()` becomes the named block,", StopSentences::named);
        says("and the answer is the error code.", StopSentences::answers);
        says("For example, with L = 0 the answer is `ERR_TRUNCATED`, the extracted tree is empty and `errorBlock()` is 0.",
            StopSentences::nothing);
        says("In every case the archive, L and the source tree never change.", StopSentences::restKept);
        says("`errorBlock()` answers the block named by the last `extract()` that stopped with an error;", StopSentences::last);
        says("-1 if there was none,", StopSentences::none);
        says("or after a success.", StopSentences::afterSuccess);
        says("It changes nothing.", StopSentences::getter);
        says("No method other than `extract()` changes it.", StopSentences::otherMethods);
    }

    /** Every way to stop with an error, but for ERR_TOO_MANY, which takes a full tree. */
    static List<Stop> stops() {
        int[] cut = new int[63];
        return List.of(
            new Stop("no header", TarArchive.ERR_TRUNCATED, 0, 0),
            new Stop("a cut header", TarArchive.ERR_TRUNCATED, 0, 0, cut),
            new Stop("no second end block", TarArchive.ERR_TRUNCATED, 1, 0, END),
            new Stop("a cut end block", TarArchive.ERR_TRUNCATED, 1, 0, END, cut),
            new Stop("a bad end", TarArchive.ERR_BAD_END, 1, 0, END, speck(63)),
            new Stop("a bad checksum", TarArchive.ERR_CHECKSUM, 0, 0, speck(0), END, END),
            new Stop("a bad magic", TarArchive.ERR_MAGIC, 0, 0, with(dir("a"), 46, '1'), END, END),
            new Stop("a bad type", TarArchive.ERR_TYPE, 0, 0, with(dir("a"), 26, '2'), END, END),
            new Stop("a bad field", TarArchive.ERR_FIELD, 0, 0, with(dir("a"), 63, 1), END, END),
            new Stop("a size too big", TarArchive.ERR_TOO_BIG, 0, 0, file("a", 33), END, END),
            new Stop("a bad name", TarArchive.ERR_NAME, 0, 0, dir("A"), END, END),
            new Stop("no parent", TarArchive.ERR_PARENT, 0, 0, dir("a/b"), END, END),
            new Stop("a path twice", TarArchive.ERR_DUPLICATE, 1, 1, dir("a"), file("a", 1), END, END, END),
            new Stop("a bad link", TarArchive.ERR_LINK, 0, 0, link("a", "a"), END, END),
            new Stop("no data", TarArchive.ERR_TRUNCATED, 1, 0, file("a", 1)),
            new Stop("cut data", TarArchive.ERR_TRUNCATED, 1, 0, file("a", 1), cut),
            new Stop("bad padding", TarArchive.ERR_PADDING, 1, 0, file("a", 1), speck(1), END, END));
    }

    /** Good entries to stand before a stop: 4 nodes in 5 blocks. */
    private static int[][] entries() {
        return new int[][] {dir("q"), file("q/r", 3), speck(2), link("s", "q/r"), file("t", 0)};
    }

    private static int[][] joined(int[][] first, int[]... then) {
        int[][] all = java.util.Arrays.copyOf(first, first.length + then.length);
        System.arraycopy(then, 0, all, first.length, then.length);
        return all;
    }

    private static TarArchive loaded(int maxNodes, int[]... blocks) {
        TarArchive x = new TarArchive(maxNodes, 12);
        Kit.file(x, -1, "src");
        Kit.load(x, blocks);
        return x;
    }

    private static void success() {
        TarArchive x = loaded(8, dir("a"), END, END);
        for (Stop stop : stops()) {
            Kit.load(x, stop.blocks());
            Kit.due(stop.what(), x.extract(), stop.error());
            Kit.load(x, dir("a"), END, END);
            Kit.due("extract()", x.extract(), 1);
            Kit.due("errorBlock() after a success", x.errorBlock(), -1);
        }
        Kit.load(x, END);
        Kit.due("extract() of half an end", x.extract(), TarArchive.ERR_TRUNCATED);
        Kit.feed(x, END);
        Kit.due("extract() of no node", x.extract(), 0);
        Kit.due("errorBlock() after it", x.errorBlock(), -1);
    }

    private static void counts() {
        for (int nodes = 0; nodes <= 8; nodes++) {
            TarArchive x = new TarArchive(8, 12);
            for (int i = 0; i < nodes; i++) {
                Kit.feed(x, dir("d" + i));
            }
            Kit.feed(x, new int[128]);
            Kit.due("extract() of " + nodes, x.extract(), nodes);
            Kit.due("nodeCount(1)", x.nodeCount(1), nodes);
        }
        TarArchive x = loaded(8, joined(entries(), END, END));
        Kit.due("extract() of 4 nodes in 5 blocks", x.extract(), 4);
    }

    private static void remain() {
        String before = extractedTree(entries());
        for (Stop stop : stops()) {
            TarArchive x = loaded(8, joined(entries(), stop.blocks()));
            x.extract();
            String more = stop.nodes() == 0 ? before : extractedTree(joined(entries(), stop.blocks()[0]));
            Kit.due("the tree after " + stop.what(), Kit.tree(x, 1), more);
        }
        TarArchive x = loaded(4, joined(entries(), dir("a"), END, END));
        x.extract();
        Kit.due("the tree after a node too many", Kit.tree(x, 1), before);
    }

    private static void named() {
        for (Stop stop : stops()) {
            TarArchive x = loaded(8, stop.blocks());
            x.extract();
            Kit.due("errorBlock() after " + stop.what(), x.errorBlock(), stop.block());
            x = loaded(8, joined(entries(), stop.blocks()));
            x.extract();
            Kit.due("errorBlock() after 5 blocks and " + stop.what(), x.errorBlock(), 5 + stop.block());
        }
        TarArchive x = loaded(4, joined(entries(), dir("a"), END, END));
        x.extract();
        Kit.due("errorBlock() after a node too many", x.errorBlock(), 5);
    }

    private static void answers() {
        for (Stop stop : stops()) {
            Kit.due(stop.what(), loaded(8, stop.blocks()).extract(), stop.error());
            Kit.due(stop.what() + " after 5 blocks", loaded(8, joined(entries(), stop.blocks())).extract(), stop.error());
        }
        Kit.due("a node too many", loaded(4, joined(entries(), dir("a"), END, END)).extract(), TarArchive.ERR_TOO_MANY);
    }

    private static void nothing() {
        TarArchive fresh = new TarArchive(8, 12);
        extract(fresh, "a fresh object", TarArchive.ERR_TRUNCATED, 0, 0);
        TarArchive x = Kit.busy();
        x.truncateArchive(0);
        extract(x, "L = 0", TarArchive.ERR_TRUNCATED, 0, 0);
        Kit.due("the extracted tree", Kit.tree(x, 1), "0:");
    }

    private static void restKept() {
        for (Stop stop : stops()) {
            TarArchive x = Kit.busy();
            Kit.load(x, joined(entries(), stop.blocks()));
            String beside = Kit.besideExtracted(x);
            x.extract();
            Kit.due("archive and source after " + stop.what(), Kit.besideExtracted(x), beside);
        }
        TarArchive x = Kit.busy();
        Kit.load(x, joined(entries(), END, END, new int[] {1, 2, 3}));
        String beside = Kit.besideExtracted(x);
        x.extract();
        Kit.due("archive and source after a success", Kit.besideExtracted(x), beside);
    }

    private static void last() {
        TarArchive x = new TarArchive(8, 12);
        for (int nodes = 8; nodes >= 0; nodes--) {
            x.truncateArchive(0);
            for (int i = 0; i < nodes; i++) {
                Kit.feed(x, dir("d" + i));
            }
            x.extract();
            Kit.due("errorBlock() after " + nodes + " headers", x.errorBlock(), nodes);
            Kit.due("errorBlock() again", x.errorBlock(), nodes);
        }
        // The greatest block that can be named is the one after the last.
        for (int i = 0; i < 6; i++) {
            Kit.feed(x, file("f" + i, 1));
            Kit.feed(x, speck(0));
        }
        x.extract();
        Kit.due("errorBlock() of a full archive", x.errorBlock(), 12);
    }

    private static void none() {
        TarArchive x = new TarArchive(8, 12);
        Kit.due("errorBlock() of a fresh object", x.errorBlock(), -1);
        Kit.dir(x, -1, "d");
        x.create();
        x.truncateArchive(3);
        Kit.due("errorBlock() before any extract()", x.errorBlock(), -1);
        Kit.due("a refused call", x.pokeArchive(3, 0), TarArchive.ERR_ARG);
        Kit.due("errorBlock() after it", x.errorBlock(), -1);
    }

    private static void afterSuccess() {
        TarArchive x = new TarArchive(8, 12);
        Kit.load(x, dir("a"), END, END);
        x.extract();
        Kit.due("errorBlock()", x.errorBlock(), -1);
        x.truncateArchive(64);
        x.extract();
        Kit.due("errorBlock() after an error", x.errorBlock(), 1);
        Kit.feed(x, new int[128]);
        Kit.due("errorBlock() before the next extract()", x.errorBlock(), 1);
        x.extract();
        Kit.due("errorBlock() after the next success", x.errorBlock(), -1);
    }

    private static void getter() {
        TarArchive x = Kit.busy();
        String before = Kit.all(x);
        Kit.due("errorBlock()", x.errorBlock(), 4);
        Kit.due("errorBlock()", x.errorBlock(), 4);
        Kit.due("the object", Kit.all(x), before);
    }

    /** Each other method, answering and refused, with a block named and with none. */
    private static void otherMethods() {
        TarArchive named = Kit.busy();
        everyOther(named, 4);
        TarArchive none = new TarArchive(8, 12);
        Kit.dir(none, -1, "d");
        Kit.file(none, 0, "f");
        Kit.link(none, -1, "l", 1);
        Kit.file(none, -1, "e");
        none.create();
        none.extract();
        everyOther(none, -1);
    }

    private static void dueBlock(TarArchive x, int block, int answer) {
        Kit.due("errorBlock() after the answer " + answer, x.errorBlock(), block);
    }

    private static void everyOther(TarArchive x, int block) {
        dueBlock(x, block, x.addNode(-1, TarArchive.KIND_DIR, 'z', 0));
        dueBlock(x, block, x.addNode(-1, TarArchive.KIND_DIR, 'z', 0));
        dueBlock(x, block, x.appendData(1, 5));
        dueBlock(x, block, x.appendData(0, 5));
        dueBlock(x, block, x.create());
        dueBlock(x, block, x.archiveLength());
        dueBlock(x, block, x.archiveByte(0));
        dueBlock(x, block, x.archiveByte(-1));
        dueBlock(x, block, x.pokeArchive(0, 1));
        dueBlock(x, block, x.pokeArchive(0, 256));
        dueBlock(x, block, x.truncateArchive(70));
        dueBlock(x, block, x.truncateArchive(71));
        dueBlock(x, block, x.truncateArchive(0));
        dueBlock(x, block, x.appendArchive(1));
        dueBlock(x, block, x.appendArchive(256));
        dueBlock(x, block, x.nodeCount(0));
        dueBlock(x, block, x.nodeCount(2));
        dueBlock(x, block, x.nodeInfo(1, 0, 0));
        dueBlock(x, block, x.nodeInfo(1, 0, 6));
        dueBlock(x, block, x.nodeByte(0, 1, 0));
        dueBlock(x, block, x.nodeByte(0, 1, 32));
        for (int i = 5; i < 8; i++) {
            dueBlock(x, block, Kit.file(x, 0, "n" + i));
            dueBlock(x, block, x.appendData(i, 0));
        }
        dueBlock(x, block, x.addNode(-1, TarArchive.KIND_DIR, 'y', 0));
        Kit.refused(x, "create() of too many blocks", x::create, TarArchive.ERR_ARCHIVE_FULL);
    }
}
