/** Promises 10 to 12: nodeCount, nodeInfo, nodeByte. */
public final class NodeViewTest {
    private static final int MIN = Integer.MIN_VALUE;
    private static final int MAX = Integer.MAX_VALUE;
    private static final int[] NO_TREES = {MIN, -1, 2, 3, MAX};

    public static void main(String[] args) {
        counts();
        items();
        wrongItems();
        bytes();
        treesApart();
        Kit.end(NodeViewTest.class);
    }

    /** DIR 0, FILE 1 in it, LINK 2 to it, empty FILE 3, LINK 4 to that; extracted are the first three. */
    private static TarArchive sample() {
        TarArchive x = new TarArchive(8, 12);
        x.addNode(-1, TarArchive.KIND_DIR, Kit.name("dir"), 0750);
        x.addNode(0, TarArchive.KIND_FILE, Kit.name("file"), 0604);
        x.addNode(-1, TarArchive.KIND_LINK, Kit.name("l"), 1);
        x.appendData(1, 0);
        x.appendData(1, 255);
        x.create();
        x.extract();
        x.appendData(2, 9);
        x.addNode(0, TarArchive.KIND_FILE, Kit.name("e"), 511);
        x.addNode(0, TarArchive.KIND_LINK, Kit.name("m"), 3);
        return x;
    }

    private static void counts() {
        TarArchive x = sample();
        String before = Kit.all(x);
        Kit.due("nodeCount(0)", x.nodeCount(0), 5);
        Kit.due("nodeCount(1)", x.nodeCount(1), 3);
        for (int t : NO_TREES) {
            Kit.due("nodeCount(" + t + ")", x.nodeCount(t), TarArchive.ERR_ARG);
        }
        Kit.due("the object", Kit.all(x), before);
    }

    private static void dueItems(TarArchive x, int t, int i, int... want) {
        for (int what = 0; what <= 5; what++) {
            Kit.due("nodeInfo(" + t + ", " + i + ", " + what + ")", x.nodeInfo(t, i, what), want[what]);
        }
    }

    private static void items() {
        TarArchive x = sample();
        dueItems(x, 0, 0, 3, -1, Kit.name("dir"), 0750, 0, -1);
        dueItems(x, 0, 1, 1, 0, Kit.name("file"), 0604, 3, -1);
        dueItems(x, 0, 2, 2, -1, Kit.name("l"), 0604, 3, 1);
        dueItems(x, 0, 3, 1, 0, Kit.name("e"), 511, 0, -1);
        dueItems(x, 0, 4, 2, 0, Kit.name("m"), 511, 0, 3);
        dueItems(x, 1, 0, 3, -1, Kit.name("dir"), 0750, 0, -1);
        dueItems(x, 1, 1, 1, 0, Kit.name("file"), 0604, 2, -1);
        dueItems(x, 1, 2, 2, -1, Kit.name("l"), 0604, 2, 1);
    }

    private static void wrongItems() {
        TarArchive x = sample();
        for (int t : NO_TREES) {
            Kit.refused(x, "nodeInfo(" + t + ", 0, 0)", () -> x.nodeInfo(t, 0, 0), TarArchive.ERR_ARG);
            Kit.refused(x, "nodeByte(" + t + ", 1, 0)", () -> x.nodeByte(t, 1, 0), TarArchive.ERR_ARG);
        }
        for (int t = 0; t <= 1; t++) {
            int tree = t;
            int count = x.nodeCount(t);
            for (int i : new int[] {MIN, -8, -2, -1, count, count + 1, 8, 16, MAX}) {
                for (int what = 0; what <= 5; what++) {
                    int item = what;
                    Kit.refused(x, "nodeInfo(" + t + ", " + i + ", " + what + ")", () -> x.nodeInfo(tree, i, item),
                        TarArchive.ERR_ARG);
                }
                Kit.refused(x, "nodeByte(" + t + ", " + i + ", 0)", () -> x.nodeByte(tree, i, 0), TarArchive.ERR_ARG);
            }
            for (int what : new int[] {MIN, -2, -1, 6, 7, MAX}) {
                Kit.refused(x, "nodeInfo(" + t + ", 1, " + what + ")", () -> x.nodeInfo(tree, 1, what), TarArchive.ERR_ARG);
            }
        }
        TarArchive fresh = new TarArchive(8, 12);
        Kit.due("nodeInfo(0, 0, 0) of no node", fresh.nodeInfo(0, 0, 0), TarArchive.ERR_ARG);
        Kit.due("nodeByte(1, 0, 0) of no node", fresh.nodeByte(1, 0, 0), TarArchive.ERR_ARG);
    }

    private static void bytes() {
        TarArchive x = sample();
        int[] content = {0, 255, 9};
        for (int t = 0; t <= 1; t++) {
            int tree = t;
            int size = 3 - t;
            for (int i = 1; i <= 2; i++) {
                int node = i;
                for (int k = 0; k < size; k++) {
                    Kit.due("nodeByte(" + t + ", " + i + ", " + k + ")", x.nodeByte(t, i, k), content[k]);
                }
                for (int k : new int[] {MIN, -1, size, size + 1, 31, 32, MAX}) {
                    Kit.refused(x, "nodeByte(" + t + ", " + i + ", " + k + ")", () -> x.nodeByte(tree, node, k),
                        TarArchive.ERR_ARG);
                }
            }
        }
        for (int i : new int[] {0, 3, 4}) {
            for (int k : new int[] {MIN, -32, -1, 0, 1, 31, 32, 33, MAX}) {
                Kit.refused(x, "nodeByte(0, " + i + ", " + k + ")", () -> x.nodeByte(0, i, k), TarArchive.ERR_ARG);
            }
        }
    }

    private static void treesApart() {
        TarArchive x = sample();
        String extracted = Kit.tree(x, 1);
        for (int i = 0; i < 3; i++) {
            Kit.file(x, -1, "n" + i);
            Kit.fill(x, 5 + i, 32);
        }
        Kit.due("the extracted tree", Kit.tree(x, 1), extracted);
        String source = Kit.tree(x, 0);
        Kit.load(x, Kit.header("q", '0', 0, ""), Kit.zeros(), Kit.zeros());
        Kit.due("extract()", x.extract(), 1);
        Kit.due("the source tree", Kit.tree(x, 0), source);
    }
}
