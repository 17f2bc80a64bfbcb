/** The section "Trees". */
final class TreeSentences extends Sentences {
    private static final int FILE = TarArchive.KIND_FILE;
    private static final int LINK = TarArchive.KIND_LINK;
    private static final int DIR = TarArchive.KIND_DIR;

    private TreeSentences() {
    }

    static void run() {
        section("Trees");
        says("A tree holds nodes with indices 0..count-1, in order of creation", TreeSentences::indices);
        says("(count <= maxNodes).", TreeSentences::most);
        says("Each node has a kind (`KIND_DIR`, `KIND_FILE`, `KIND_LINK`), a parent and a name.", TreeSentences::items);
        says("The parent is -1 for top level;", TreeSentences::topLevel);
        says("otherwise it is the index of a DIR node with a smaller index.", TreeSentences::parents);
        says("DIR and FILE nodes have a mode 0..511.", TreeSentences::modes);
        says("A FILE has a content of 0..`MAX_FILE` bytes,", TreeSentences::sizes);
        says("each 0..255.", TreeSentences::bytes);
        says("A LINK is a hard link: its target is the index of a FILE node with a smaller index.", TreeSentences::targets);
        says("A LINK has no mode or content of its own: its mode, size and bytes are its target's,", TreeSentences::shared);
        says("and appending through it appends to the target.", TreeSentences::appending);
    }

    private static void indices() {
        TarArchive x = new TarArchive(8, 12);
        String[] names = {"z", "b", "y", "a", "_", "0", "9", "c"};
        for (int i = 0; i < 8; i++) {
            Kit.due("addNode " + i, Kit.dir(x, -1, names[i]), i);
        }
        Kit.due("create()", x.create(), 10);
        Kit.due("extract()", x.extract(), 8);
        for (int t = 0; t <= 1; t++) {
            for (int i = 0; i < 8; i++) {
                Kit.due("name " + i + " of tree " + t, x.nodeInfo(t, i, TarArchive.INFO_NAME), Kit.name(names[i]));
            }
            Kit.due("node -1 of tree " + t, x.nodeInfo(t, -1, TarArchive.INFO_KIND), TarArchive.ERR_ARG);
            Kit.due("node 8 of tree " + t, x.nodeInfo(t, 8, TarArchive.INFO_KIND), TarArchive.ERR_ARG);
        }
    }

    private static void most() {
        for (int maxNodes = 2; maxNodes <= 8; maxNodes++) {
            TarArchive x = new TarArchive(maxNodes, 12);
            for (int i = 0; i < maxNodes; i++) {
                Kit.due("addNode", Kit.dir(x, -1, "n" + i), i);
                Kit.feed(x, dir("n" + i));
            }
            Kit.refused(x, "addNode to a full tree", () -> Kit.dir(x, -1, "more"), TarArchive.ERR_FULL);
            Kit.feed(x, dir("more"));
            extract(x, "a node more than " + maxNodes, TarArchive.ERR_TOO_MANY, maxNodes, maxNodes);
        }
    }

    private static void items() {
        TarArchive x = new TarArchive(8, 12);
        x.addNode(-1, DIR, 'd', 0);
        x.addNode(0, FILE, 'f', 0);
        x.addNode(0, LINK, 'l', 1);
        x.create();
        x.extract();
        String want = "3: [3 -1 100 0 0 -1 | -2 -2] [1 0 102 0 0 -1 | -2 -2] [2 0 108 0 0 1 | -2 -2]";
        Kit.due("tree 0", Kit.tree(x, 0), want);
        Kit.due("tree 1", Kit.tree(x, 1), want);
    }

    private static void topLevel() {
        TarArchive x = new TarArchive(8, 12);
        Kit.due("addNode(-1, DIR)", x.addNode(-1, DIR, 'd', 0), 0);
        Kit.due("addNode(-1, FILE)", x.addNode(-1, FILE, 'f', 0), 1);
        Kit.due("addNode(-1, LINK)", x.addNode(-1, LINK, 'l', 1), 2);
        x.create();
        x.extract();
        for (int i = 0; i < 3; i++) {
            Kit.due("parent of " + i, x.nodeInfo(0, i, TarArchive.INFO_PARENT), -1);
            Kit.due("parent of extracted " + i, x.nodeInfo(1, i, TarArchive.INFO_PARENT), -1);
        }
    }

    private static void parents() {
        TarArchive x = new TarArchive(8, 12);
        Kit.refused(x, "addNode under itself", () -> x.addNode(0, DIR, 'a', 0), TarArchive.ERR_PARENT);
        Kit.dir(x, -1, "a");
        Kit.file(x, -1, "f");
        Kit.link(x, -1, "l", 1);
        for (int parent : new int[] {1, 2, 3, 4}) {
            Kit.refused(x, "addNode under " + parent, () -> x.addNode(parent, DIR, 'c', 0), TarArchive.ERR_PARENT);
        }
        Kit.due("addNode under a DIR", x.addNode(0, DIR, 'c', 0), 3);
        Kit.due("its parent", x.nodeInfo(0, 3, TarArchive.INFO_PARENT), 0);
        read("a child of a FILE", TarArchive.ERR_PARENT, 1, 1, file("a", 0), dir("a/c"), END, END);
        read("a child of a LINK", TarArchive.ERR_PARENT, 2, 2, file("a", 0), link("l", "a"), dir("l/c"), END, END);
        read("a child before its DIR", TarArchive.ERR_PARENT, 0, 0, dir("a/c"), dir("a"), END, END);
        TarArchive y = read("a child after its DIR", 3, -1, 3, dir("b"), dir("a"), dir("a/c"), END, END);
        Kit.due("its parent", y.nodeInfo(1, 2, TarArchive.INFO_PARENT), 1);
    }

    private static void modes() {
        for (int kind : new int[] {DIR, FILE}) {
            TarArchive x = new TarArchive(2, 4);
            Kit.refused(x, "mode -1", () -> x.addNode(-1, kind, 'a', -1), TarArchive.ERR_MODE);
            Kit.refused(x, "mode 512", () -> x.addNode(-1, kind, 'a', 512), TarArchive.ERR_MODE);
            x.addNode(-1, kind, 'a', 0);
            x.addNode(-1, kind, 'b', 511);
            x.create();
            x.extract();
            for (int t = 0; t <= 1; t++) {
                Kit.due("least mode, tree " + t, x.nodeInfo(t, 0, TarArchive.INFO_MODE), 0);
                Kit.due("greatest mode, tree " + t, x.nodeInfo(t, 1, TarArchive.INFO_MODE), 511);
            }
        }
    }

    private static void sizes() {
        TarArchive x = new TarArchive(2, 4);
        Kit.file(x, -1, "a");
        Kit.due("size of a new FILE", x.nodeInfo(0, 0, TarArchive.INFO_SIZE), 0);
        for (int size = 1; size <= 32; size++) {
            Kit.due("appendData", x.appendData(0, size), size);
        }
        Kit.refused(x, "byte 33", () -> x.appendData(0, 33), TarArchive.ERR_FULL);
        x.create();
        x.extract();
        Kit.due("tree 1", Kit.tree(x, 1), Kit.tree(x, 0));
        // A full FILE has its room at every index, the last one too.
        for (int i = 0; i < 8; i++) {
            TarArchive y = new TarArchive(8, 12);
            for (int d = 0; d < i; d++) {
                Kit.dir(y, -1, "d" + d);
            }
            Kit.file(y, -1, "f");
            Kit.fill(y, i, 32);
            Kit.due("create() with a full FILE " + i, y.create(), i + 4);
            Kit.due("extract() with a full FILE " + i, y.extract(), i + 1);
            Kit.due("tree 1", Kit.tree(y, 1), Kit.tree(y, 0));
        }
        read("a FILE of 0 bytes", 1, -1, 1, file("a", 0), END, END);
        read("a FILE of 32 bytes", 1, -1, 1, file("a", 32), END, END, END);
        read("a FILE of 33 bytes", TarArchive.ERR_TOO_BIG, 0, 0, file("a", 33), END, END, END);
    }

    private static void bytes() {
        for (int value = 0; value <= 255; value++) {
            TarArchive x = new TarArchive(2, 4);
            Kit.file(x, -1, "a");
            Kit.due("appendData(0, " + value + ")", x.appendData(0, value), 1);
            x.create();
            x.extract();
            Kit.due("source byte", x.nodeByte(0, 0, 0), value);
            Kit.due("extracted byte", x.nodeByte(1, 0, 0), value);
        }
        TarArchive x = Kit.busy();
        for (int value : new int[] {MIN, -1, 256, MAX}) {
            Kit.refused(x, "appendData(1, " + value + ")", () -> x.appendData(1, value), TarArchive.ERR_ARG);
        }
    }

    private static void targets() {
        TarArchive x = new TarArchive(8, 12);
        Kit.dir(x, -1, "d");
        Kit.file(x, -1, "f");
        for (int target : new int[] {0, 2, 3}) {
            Kit.refused(x, "a LINK to " + target, () -> Kit.link(x, -1, "l", target), TarArchive.ERR_LINK);
        }
        Kit.due("a LINK to a FILE", Kit.link(x, -1, "l", 1), 2);
        Kit.due("a LINK to a LINK", Kit.link(x, -1, "m", 2), 3);
        x.create();
        x.extract();
        for (int t = 0; t <= 1; t++) {
            Kit.due("target of 2, tree " + t, x.nodeInfo(t, 2, TarArchive.INFO_LINK), 1);
            Kit.due("target of 3, tree " + t, x.nodeInfo(t, 3, TarArchive.INFO_LINK), 1);
        }
        TarArchive y = read("a LINK to a LINK", 3, -1, 3, file("f", 0), link("l", "f"), link("m", "l"), END, END);
        Kit.due("target of 2", y.nodeInfo(1, 2, TarArchive.INFO_LINK), 0);
        read("a LINK to a DIR", TarArchive.ERR_LINK, 1, 1, dir("d"), link("l", "d"), END, END);
        read("a LINK to itself", TarArchive.ERR_LINK, 1, 1, dir("d"), link("l", "l"), END, END);
        read("a LINK to a later FILE", TarArchive.ERR_LINK, 0, 0, link("l", "f"), file("f", 0), END, END);
    }

    private static void shared() {
        TarArchive x = new TarArchive(8, 12);
        x.addNode(-1, FILE, 'f', 0604);
        x.addNode(-1, LINK, 'l', 0);
        Kit.due("an empty LINK", Kit.tree(x, 0), "2: [1 -1 102 388 0 -1 | -2 -2] [2 -1 108 388 0 0 | -2 -2]");
        x.appendData(0, 255);
        x.create();
        x.extract();
        String want = "2: [1 -1 102 388 1 -1 | -2 255 -2] [2 -1 108 388 1 0 | -2 255 -2]";
        Kit.due("tree 0", Kit.tree(x, 0), want);
        Kit.due("tree 1", Kit.tree(x, 1), want);
    }

    private static void appending() {
        TarArchive x = new TarArchive(8, 12);
        Kit.file(x, -1, "e");
        Kit.file(x, -1, "f");
        Kit.link(x, -1, "l", 1);
        for (int size = 1; size <= 32; size++) {
            Kit.due("appendData through the LINK", x.appendData(2, 32 - size), size);
            Kit.due("the target's size", x.nodeInfo(0, 1, TarArchive.INFO_SIZE), size);
            Kit.due("the target's last byte", x.nodeByte(0, 1, size - 1), 32 - size);
        }
        Kit.refused(x, "byte 33 through the LINK", () -> x.appendData(2, 1), TarArchive.ERR_FULL);
        Kit.due("the other FILE's size", x.nodeInfo(0, 0, TarArchive.INFO_SIZE), 0);
    }
}
