/** Promises 10 to 12. */
final class NodeSentences extends Sentences {
    private static final int[] NO_TREES = {MIN, MIN + 1, -2, -1, 2, 3, 16, 256, MAX - 1, MAX};
    private static final int[] NO_ITEMS = {MIN, MIN + 1, -2, -1, 6, 7, 256, MAX - 1, MAX};

    private NodeSentences() {
    }

    static void run() {
        counting();
        items();
        bytes();
    }

    private static void counting() {
        section("Promise 10: nodeCount");
        says("`nodeCount(t)` answers the node count of tree t (0 = source, 1 = extracted).", NodeSentences::counts);
        says("If t is not 0 or 1: `ERR_ARG`.", NodeSentences::noTreeCount);
        says("It changes nothing.", NodeSentences::countGetter);
    }

    private static void items() {
        section("Promise 11: nodeInfo");
        says("`nodeInfo(t, i, what)` answers item what (one of the `INFO_` constants) of node i of tree t.",
            NodeSentences::eachItem);
        says("If t is not 0 or 1,", NodeSentences::noTreeInfo);
        says("or i is not in 0..count-1 of that tree,", NodeSentences::noNodeInfo);
        says("or what is not in 0..5: `ERR_ARG`.", NodeSentences::noItem);
        onlyLeads("The items are:");
        says("`INFO_KIND`: the kind constant.", () -> item(TarArchive.INFO_KIND, 3, 1, 2, 1, 2, 3));
        says("`INFO_PARENT`: the parent index, or -1.", () -> item(TarArchive.INFO_PARENT, -1, 0, -1, 0, -1, 0));
        says("`INFO_NAME`: the packed name, in the canonical form (bytes after the name's length are 0).", NodeSentences::names);
        says("`INFO_MODE`: the mode; for a LINK, its target's mode.",
            () -> item(TarArchive.INFO_MODE, 511, 0604, 0604, 0, 0, 0750));
        says("`INFO_SIZE`: the content size; DIR: 0; LINK: its target's size.",
            () -> item(TarArchive.INFO_SIZE, 0, 32, 32, 0, 0, 0));
        says("`INFO_LINK`: for a LINK, its target's index; otherwise -1.",
            () -> item(TarArchive.INFO_LINK, -1, -1, 1, -1, 3, -1));
        says("It changes nothing.", NodeSentences::infoGetter);
    }

    private static void bytes() {
        section("Promise 12: nodeByte");
        says("`nodeByte(t, i, k)` answers content byte k (0..255) of node i of tree t.", NodeSentences::eachByte);
        says("For a LINK this is its target's byte.", NodeSentences::linkBytes);
        says("If t is not 0 or 1,", NodeSentences::noTreeByte);
        says("or i is not in 0..count-1 of that tree,", NodeSentences::noNodeByte);
        says("or i is a DIR,", NodeSentences::dirBytes);
        says("or k is not in 0..size-1 (size being the node's size as `INFO_SIZE` gives it): `ERR_ARG`.", NodeSentences::noByte);
        says("A FILE or LINK with empty content answers `ERR_ARG` for every k.", NodeSentences::noContent);
        says("It changes nothing.", NodeSentences::byteGetter);
    }

    /** DIR 0, full FILE 1 in it, LINK 2 to 1, empty FILE 3 in it, LINK 4 to 3, DIR 5 in it; extracted as they are. */
    private static TarArchive six() {
        TarArchive x = new TarArchive(8, 12);
        x.addNode(-1, TarArchive.KIND_DIR, Kit.name("d"), 511);
        x.addNode(0, TarArchive.KIND_FILE, Kit.name("file"), 0604);
        x.addNode(-1, TarArchive.KIND_LINK, Kit.name("l_"), 1);
        x.addNode(0, TarArchive.KIND_FILE, Kit.name("e"), 0);
        x.addNode(-1, TarArchive.KIND_LINK, Kit.name("m"), 3);
        x.addNode(0, TarArchive.KIND_DIR, Kit.name("dir"), 0750);
        for (int k = 0; k < 32; k++) {
            x.appendData(1, content(k));
        }
        x.create();
        x.extract();
        return x;
    }

    private static int content(int k) {
        return 255 - 8 * k;
    }

    /** Another count in each tree: 4 source nodes, 3 extracted ones. */
    private static TarArchive uneven() {
        return Kit.busy();
    }

    private static void counts() {
        TarArchive x = new TarArchive(8, 12);
        Kit.due("nodeCount(0) of a fresh object", x.nodeCount(0), 0);
        Kit.due("nodeCount(1) of a fresh object", x.nodeCount(1), 0);
        for (int i = 1; i <= 8; i++) {
            Kit.dir(x, -1, "d" + i);
            Kit.due("nodeCount(0)", x.nodeCount(0), i);
            Kit.due("nodeCount(1)", x.nodeCount(1), i - 1);
            x.create();
            x.extract();
            Kit.due("nodeCount(1) after extract()", x.nodeCount(1), i);
        }
        x.truncateArchive(0);
        x.extract();
        Kit.due("nodeCount(0) after an empty extract()", x.nodeCount(0), 8);
        Kit.due("nodeCount(1) after an empty extract()", x.nodeCount(1), 0);
    }

    private static void noTreeCount() {
        for (TarArchive x : new TarArchive[] {new TarArchive(2, 4), six()}) {
            for (int t : NO_TREES) {
                Kit.refused(x, "nodeCount(" + t + ")", () -> x.nodeCount(t), TarArchive.ERR_ARG);
            }
        }
    }

    private static void countGetter() {
        TarArchive x = uneven();
        String before = Kit.all(x);
        for (int t : new int[] {0, 1, 2, -1}) {
            x.nodeCount(t);
            Kit.due("the object after nodeCount(" + t + ")", Kit.all(x), before);
        }
    }

    private static void eachItem() {
        TarArchive x = uneven();
        int[][][] want = {
            {{3, -1, 'd', 0755, 0, -1}, {1, 0, 'f', 0644, 4, -1}, {2, -1, 'l', 0644, 4, 1}, {1, 0, 'e', 0600, 2, -1}},
            {{1, -1, 'x', 0644, 3, -1}, {3, -1, 'y', 0644, 0, -1}, {2, 1, 'z', 0644, 3, 0}}};
        for (int t = 0; t <= 1; t++) {
            for (int i = 0; i < want[t].length; i++) {
                for (int what = 0; what <= 5; what++) {
                    Kit.due("nodeInfo(" + t + ", " + i + ", " + what + ")", x.nodeInfo(t, i, what), want[t][i][what]);
                }
            }
        }
    }

    private static void noTreeInfo() {
        TarArchive x = six();
        for (int t : NO_TREES) {
            for (int what = 0; what <= 5; what++) {
                int item = what;
                Kit.refused(x, "nodeInfo(" + t + ", 0, " + what + ")", () -> x.nodeInfo(t, 0, item), TarArchive.ERR_ARG);
            }
        }
    }

    private static void refusedInfo(TarArchive x, int t, int i, int what) {
        Kit.refused(x, "nodeInfo(" + t + ", " + i + ", " + what + ")", () -> x.nodeInfo(t, i, what), TarArchive.ERR_ARG);
    }

    private static void noNodeInfo() {
        TarArchive x = uneven();
        for (int what = 0; what <= 5; what++) {
            for (int i : new int[] {MIN, MIN + 1, -8, -2, -1, 4, 5, 7, 8, 9, 16, MAX}) {
                refusedInfo(x, 0, i, what);
                refusedInfo(x, 1, i, what);
                refusedInfo(new TarArchive(8, 12), 0, i, what);
            }
            // Node 3 is there in the source tree alone.
            refusedInfo(x, 1, 3, what);
            refusedInfo(new TarArchive(8, 12), 0, 0, what);
            refusedInfo(new TarArchive(8, 12), 1, 0, what);
        }
        // The last node of a full tree is there, and none after it.
        TarArchive full = new TarArchive(8, 12);
        for (int i = 0; i < 8; i++) {
            Kit.dir(full, -1, "d" + i);
        }
        full.create();
        full.extract();
        for (int t = 0; t <= 1; t++) {
            Kit.due("nodeInfo(" + t + ", 7, 0)", full.nodeInfo(t, 7, 0), TarArchive.KIND_DIR);
            refusedInfo(full, t, 8, 0);
        }
    }

    private static void noItem() {
        TarArchive x = six();
        for (int t = 0; t <= 1; t++) {
            for (int i = 0; i < 6; i++) {
                for (int what : NO_ITEMS) {
                    refusedInfo(x, t, i, what);
                }
            }
        }
    }

    private static void item(int what, int... want) {
        TarArchive x = six();
        for (int t = 0; t <= 1; t++) {
            for (int i = 0; i < want.length; i++) {
                Kit.due("nodeInfo(" + t + ", " + i + ", " + what + ")", x.nodeInfo(t, i, what), want[i]);
            }
        }
    }

    private static void names() {
        item(TarArchive.INFO_NAME, 0x64, 0x656c6966, 0x5f6c, 0x65, 0x6d, 0x726964);
        // Over longer names of an earlier extraction, the bytes after the length are 0 again.
        TarArchive x = read("a name of 4", 1, -1, 1, dir("wxyz"), END, END);
        for (int n = 1; n <= 4; n++) {
            String name = "abcd".substring(0, n);
            Kit.load(x, dir(name), END, END);
            extract(x, "a name of " + n, 1, -1, 1);
            Kit.due("INFO_NAME", x.nodeInfo(1, 0, TarArchive.INFO_NAME), Kit.name(name));
        }
    }

    private static void infoGetter() {
        TarArchive x = uneven();
        String before = Kit.all(x);
        for (int t = -1; t <= 2; t++) {
            for (int i = -1; i <= 4; i++) {
                for (int what = -1; what <= 6; what++) {
                    x.nodeInfo(t, i, what);
                }
            }
        }
        Kit.due("the object", Kit.all(x), before);
    }

    private static void eachByte() {
        for (int t = 0; t <= 1; t++) {
            TarArchive x = six();
            for (int k = 0; k < 32; k++) {
                Kit.due("nodeByte(" + t + ", 1, " + k + ")", x.nodeByte(t, 1, k), content(k));
            }
        }
        // The trees have each their own bytes, at the same indices.
        TarArchive x = new TarArchive(2, 4);
        Kit.file(x, -1, "f");
        x.appendData(0, 0);
        x.appendData(0, 255);
        Kit.load(x, file("f", 2), Kit.put(Kit.zeros(), 0, "\u00c8\u0080"), END, END);
        x.extract();
        Kit.due("source bytes", Kit.tree(x, 0), "1: [1 -1 102 420 2 -1 | -2 0 255 -2]");
        Kit.due("extracted bytes", Kit.tree(x, 1), "1: [1 -1 102 420 2 -1 | -2 200 128 -2]");
    }

    private static void linkBytes() {
        TarArchive x = six();
        for (int t = 0; t <= 1; t++) {
            for (int k = 0; k < 32; k++) {
                Kit.due("nodeByte(" + t + ", 2, " + k + ")", x.nodeByte(t, 2, k), content(k));
            }
        }
        x.appendData(4, 77);
        Kit.due("a byte appended to the target", x.nodeByte(0, 4, 0), 77);
        Kit.due("not to the extracted one", x.nodeByte(1, 4, 0), TarArchive.ERR_ARG);
    }

    private static void refusedByte(TarArchive x, int t, int i, int k) {
        Kit.refused(x, "nodeByte(" + t + ", " + i + ", " + k + ")", () -> x.nodeByte(t, i, k), TarArchive.ERR_ARG);
    }

    private static void noTreeByte() {
        TarArchive x = six();
        for (int t : NO_TREES) {
            refusedByte(x, t, 1, 0);
            refusedByte(x, t, 2, 31);
        }
    }

    private static void noNodeByte() {
        TarArchive x = uneven();
        for (int i : new int[] {MIN, MIN + 1, -8, -1, 4, 5, 7, 8, 9, 16, MAX}) {
            refusedByte(x, 0, i, 0);
            refusedByte(x, 1, i, 0);
            refusedByte(new TarArchive(8, 12), 0, i, 0);
        }
        Kit.due("nodeByte(0, 3, 0)", x.nodeByte(0, 3, 0), 4);
        refusedByte(x, 1, 3, 0);
        // What an extraction left behind is gone with its nodes.
        TarArchive y = six();
        y.truncateArchive(64);
        y.extract();
        refusedByte(y, 1, 1, 0);
        refusedByte(y, 1, 2, 0);
    }

    private static void dirBytes() {
        TarArchive x = six();
        for (int k : new int[] {MIN, -1, 0, 1, 31, 32, MAX}) {
            for (int t = 0; t <= 1; t++) {
                refusedByte(x, t, 0, k);
                refusedByte(x, t, 5, k);
            }
        }
        // A DIR where a full FILE stood before.
        Kit.load(x, dir("a"), dir("b"), END, END);
        x.extract();
        refusedByte(x, 1, 1, 0);
    }

    private static void noByte() {
        for (int size = 0; size <= 32; size++) {
            TarArchive x = new TarArchive(2, 4);
            Kit.file(x, -1, "f");
            Kit.link(x, -1, "l", 0);
            Kit.fill(x, 0, size);
            x.create();
            if (size > 0) {
                // Two nodes with data do not fit: the FILE alone is extracted.
                x.truncateArchive(0);
                Kit.feed(x, file("f", size));
                Kit.feed(x, speck(size - 1));
                Kit.feed(x, new int[128]);
            }
            x.extract();
            for (int k : new int[] {MIN, MIN + 1, -32, -1, size, size + 1, 32, 33, 64, MAX - 1, MAX}) {
                refusedByte(x, 0, 0, k);
                refusedByte(x, 0, 1, k);
                refusedByte(x, 1, 0, k);
            }
            if (size > 0) {
                Kit.due("the first byte", x.nodeByte(0, 0, 0), 1);
                Kit.due("the last byte", x.nodeByte(0, 1, size - 1), ((size - 1) * 37 + 1) & 255);
                Kit.due("the last extracted byte", x.nodeByte(1, 0, size - 1), 1);
            }
        }
    }

    private static void noContent() {
        TarArchive x = six();
        for (int t = 0; t <= 1; t++) {
            for (int node : new int[] {3, 4}) {
                for (int k = -40; k <= 40; k++) {
                    Kit.due("nodeByte(" + t + ", " + node + ", " + k + ")", x.nodeByte(t, node, k), TarArchive.ERR_ARG);
                }
                refusedByte(x, t, node, MIN);
                refusedByte(x, t, node, MAX);
            }
        }
        // An empty FILE and a LINK to it where full ones stood before.
        Kit.load(x, dir("d"), file("f", 0), link("l", "f"), END, END);
        x.extract();
        refusedByte(x, 1, 1, 0);
        refusedByte(x, 1, 2, 0);
    }

    private static void byteGetter() {
        TarArchive x = uneven();
        String before = Kit.all(x);
        for (int t = -1; t <= 2; t++) {
            for (int i = -1; i <= 4; i++) {
                for (int k = -1; k <= 5; k++) {
                    x.nodeByte(t, i, k);
                }
            }
        }
        Kit.due("the object", Kit.all(x), before);
    }
}
