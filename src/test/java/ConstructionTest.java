/** Promise 1. */
public final class ConstructionTest {
    public static void main(String[] args) {
        int[][] nodes = {{Integer.MIN_VALUE, 2}, {-1, 2}, {0, 2}, {1, 2}, {2, 2}, {3, 3}, {4, 4}, {5, 5}, {6, 6},
            {7, 7}, {8, 8}, {9, 8}, {100, 8}, {Integer.MAX_VALUE, 8}};
        int[][] blocks = {{Integer.MIN_VALUE, 4}, {-1, 4}, {0, 4}, {3, 4}, {4, 4}, {5, 5}, {6, 6}, {7, 7}, {8, 8},
            {9, 9}, {10, 10}, {11, 11}, {12, 12}, {13, 12}, {100, 12}, {Integer.MAX_VALUE, 12}};
        for (int[] n : nodes) {
            for (int[] b : blocks) {
                capacities(n[0], n[1], b[0], b[1]);
            }
        }
        apart();
        Kit.end(ConstructionTest.class);
    }

    private static void capacities(int maxNodes, int nodesHeld, int maxBlocks, int blocksHeld) {
        TarArchive x = new TarArchive(maxNodes, maxBlocks);
        String made = "new TarArchive(" + maxNodes + ", " + maxBlocks + ") ";
        Kit.due(made + "fresh", Kit.all(x), "0: / 0: / 0: -2 / -1");
        for (int i = 0; i < nodesHeld; i++) {
            Kit.due(made + "addNode " + i, x.addNode(-1, TarArchive.KIND_DIR, 'a' + i, 0), i);
        }
        Kit.due(made + "addNode past the end", x.addNode(-1, TarArchive.KIND_DIR, 'z', 0), TarArchive.ERR_FULL);
        int bytes = 64 * blocksHeld;
        for (int pos = 0; pos < bytes; pos++) {
            Kit.due(made + "appendArchive at " + pos, x.appendArchive(pos & 255), pos + 1);
        }
        Kit.due(made + "appendArchive past the end", x.appendArchive(0), TarArchive.ERR_FULL);
        extractedCapacity(maxNodes, nodesHeld, made);
    }

    private static void extractedCapacity(int maxNodes, int nodesHeld, String made) {
        TarArchive x = new TarArchive(maxNodes, 12);
        for (int i = 0; i <= nodesHeld; i++) {
            Kit.feed(x, Kit.header("" + (char) ('a' + i), '5', 0, ""));
        }
        Kit.due(made + "extract of one node too many", x.extract(), TarArchive.ERR_TOO_MANY);
        Kit.due(made + "nodeCount(1)", x.nodeCount(1), nodesHeld);
    }

    private static void apart() {
        TarArchive x = new TarArchive(8, 12);
        TarArchive y = new TarArchive(8, 12);
        Kit.dir(x, -1, "a");
        x.create();
        x.extract();
        x.truncateArchive(1);
        x.extract();
        Kit.due("another object", Kit.all(y), "0: / 0: / 0: -2 / -1");
    }
}
