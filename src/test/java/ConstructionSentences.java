/** Promise 1. */
final class ConstructionSentences extends Sentences {
    private static final int[] ANY = {MIN, MIN + 1, -100, -1, 0, 1, 2, 3, 4, 7, 8, 9, 11, 12, 13, 64, 1000, MAX - 1, MAX};

    private ConstructionSentences() {
    }

    static void run() {
        section("Promise 1: Construction");
        says("`TarArchive(maxNodes, maxBlocks)` never fails.", ConstructionSentences::neverFails);
        says("maxNodes is the node capacity of each tree; it is clamped to 2..8:", () -> nodes(2, 2, 3, 3, 4, 4, 5, 5, 6, 6, 7, 7,
            8, 8));
        says("any value below 2 becomes 2,", () -> nodes(1, 2, 0, 2, -1, 2, -8, 2));
        says("any value above 8 becomes 8", () -> nodes(9, 8, 10, 8, 16, 8, 256, 8, 1000000, 8));
        says("(including `Integer.MIN_VALUE` and `Integer.MAX_VALUE`).", () -> nodes(MIN, 2, MIN + 1, 2, MAX, 8, MAX - 1, 8));
        says("maxBlocks is the archive capacity in blocks; it is clamped to 4..12", () -> blocks(4, 4, 5, 5, 6, 6, 7, 7, 8, 8,
            9, 9, 10, 10, 11, 11, 12, 12));
        says("it is clamped to 4..12 the same way.", () -> blocks(3, 4, 2, 4, 1, 4, 0, 4, -1, 4, -64, 4, MIN, 4, MIN + 1, 4,
            13, 12, 14, 12, 64, 12, 1000000, 12, MAX, 12, MAX - 1, 12));
        says("The archive can therefore hold at most 64*maxBlocks bytes.", ConstructionSentences::bytes);
        says("A fresh object has both trees empty (count 0 in each),", ConstructionSentences::freshTrees);
        says("L = 0", ConstructionSentences::freshArchive);
        says("and `errorBlock()` = -1.", ConstructionSentences::freshErrorBlock);
    }

    private static void neverFails() {
        for (int maxNodes : ANY) {
            for (int maxBlocks : ANY) {
                TarArchive x = new TarArchive(maxNodes, maxBlocks);
                Kit.due("the first node", Kit.dir(x, -1, "a"), 0);
                Kit.due("create()", x.create(), 3);
                Kit.due("extract()", x.extract(), 1);
            }
        }
    }

    /** Pairs of what is given and the capacity that it becomes. */
    private static void nodes(int... pairs) {
        for (int p = 0; p < pairs.length; p += 2) {
            int held = pairs[p + 1];
            TarArchive x = new TarArchive(pairs[p], 12);
            String made = "new TarArchive(" + pairs[p] + ", 12): ";
            for (int i = 0; i < held; i++) {
                Kit.due(made + "addNode", Kit.dir(x, -1, "n" + i), i);
                Kit.feed(x, dir("n" + i));
            }
            Kit.due(made + "addNode past the end", Kit.dir(x, -1, "more"), TarArchive.ERR_FULL);
            Kit.feed(x, dir("more"));
            Kit.due(made + "extract() past the end", x.extract(), TarArchive.ERR_TOO_MANY);
            Kit.due(made + "extracted nodes", x.nodeCount(1), held);
            x.truncateArchive(64 * held);
            Kit.feed(x, new int[128]);
            Kit.due(made + "extract() of as many as fit", x.extract(), held);
        }
    }

    private static void blocks(int... pairs) {
        for (int p = 0; p < pairs.length; p += 2) {
            int held = pairs[p + 1];
            TarArchive x = new TarArchive(8, pairs[p]);
            String made = "new TarArchive(8, " + pairs[p] + "): ";
            for (int b = 0; b < held; b++) {
                Kit.feed(x, Kit.zeros());
            }
            Kit.due(made + "archiveLength()", x.archiveLength(), 64 * held);
            Kit.due(made + "appendArchive past the end", x.appendArchive(0), TarArchive.ERR_FULL);
            int needed = 2;
            for (int i = 0; i < 8; i++) {
                Kit.file(x, -1, "f" + i);
                needed++;
                Kit.due(made + "create()", x.create(), needed > held ? TarArchive.ERR_ARCHIVE_FULL : needed);
                x.appendData(i, 1);
                needed++;
                Kit.due(made + "create()", x.create(), needed > held ? TarArchive.ERR_ARCHIVE_FULL : needed);
            }
        }
    }

    private static void bytes() {
        for (int maxBlocks : ANY) {
            TarArchive x = new TarArchive(2, maxBlocks);
            int room = 64 * Math.max(4, Math.min(12, maxBlocks));
            for (int pos = 0; pos < room; pos++) {
                Kit.due("appendArchive", x.appendArchive(pos & 255), pos + 1);
            }
            Kit.refused(x, "appendArchive past " + room, () -> x.appendArchive(0), TarArchive.ERR_FULL);
            for (int pos = 0; pos < room; pos++) {
                Kit.due("archiveByte", x.archiveByte(pos), pos & 255);
            }
        }
    }

    private static void freshTrees() {
        for (int any : ANY) {
            TarArchive x = new TarArchive(any, any);
            for (int t = 0; t <= 1; t++) {
                Kit.due("nodeCount(" + t + ")", x.nodeCount(t), 0);
                Kit.due("nodeInfo(" + t + ", 0, 0)", x.nodeInfo(t, 0, 0), TarArchive.ERR_ARG);
                Kit.due("nodeByte(" + t + ", 0, 0)", x.nodeByte(t, 0, 0), TarArchive.ERR_ARG);
            }
        }
    }

    private static void freshArchive() {
        for (int any : ANY) {
            TarArchive x = new TarArchive(any, any);
            Kit.due("archiveLength()", x.archiveLength(), 0);
            Kit.due("archiveByte(0)", x.archiveByte(0), TarArchive.ERR_ARG);
        }
    }

    private static void freshErrorBlock() {
        for (int any : ANY) {
            Kit.due("errorBlock()", new TarArchive(any, any).errorBlock(), -1);
        }
    }
}
