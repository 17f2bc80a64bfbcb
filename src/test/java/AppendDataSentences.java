/** Promise 3. */
final class AppendDataSentences extends Sentences {
    private AppendDataSentences() {
    }

    static void run() {
        section("Promise 3: appendData");
        says("`appendData(node, value)` appends byte value to the content of a source FILE node, or of a LINK node's target.",
            AppendDataSentences::appends);
        says("The conditions are examined in this order:", AppendDataSentences::order);
        says("node is not in 0..count-1: `ERR_ARG`.", AppendDataSentences::nodes);
        says("node is a DIR: `ERR_KIND`.", AppendDataSentences::dirs);
        says("value is not in 0..255: `ERR_ARG`.", AppendDataSentences::values);
        says("the file (the FILE itself,", () -> full(1));
        says("or the LINK's target) already holds `MAX_FILE` bytes: `ERR_FULL`.", () -> full(3));
        says("Each refusal changes nothing.", AppendDataSentences::refusals);
        says("On success the value becomes the file's last content byte,", AppendDataSentences::lastByte);
        says("its size grows by 1, and the answer is the new size.", AppendDataSentences::sizes);
        says("Because a LINK shares its target's content, the new byte and size are seen through the target and through every "
            + "LINK to it.", AppendDataSentences::seenThrough);
        says("Nothing else changes: no other file,", AppendDataSentences::otherFiles);
        says("no node's kind, parent, name or mode, the extracted tree, the archive, `errorBlock()`.", AppendDataSentences::rest);
    }

    /** DIR 0, FILE 1 in it, FILE 2, LINK 3 to 1, LINK 4 to 3. */
    private static TarArchive five() {
        TarArchive x = new TarArchive(8, 12);
        Kit.dir(x, -1, "d");
        Kit.file(x, 0, "f");
        Kit.file(x, -1, "g");
        Kit.link(x, -1, "l", 1);
        Kit.link(x, 0, "m", 3);
        return x;
    }

    private static void refused(TarArchive x, int node, int value, int error) {
        Kit.refused(x, "appendData(" + node + ", " + value + ")", () -> x.appendData(node, value), error);
    }

    private static void appends() {
        TarArchive x = five();
        x.appendData(1, 10);
        x.appendData(3, 0);
        x.appendData(4, 255);
        x.appendData(2, 13);
        String shared = "| -2 10 0 255 -2]";
        Kit.due("the tree", Kit.tree(x, 0), "5: [3 -1 100 493 0 -1 | -2 -2] [1 0 102 420 3 -1 " + shared
            + " [1 -1 103 420 1 -1 | -2 13 -2] [2 -1 108 420 3 1 " + shared + " [2 0 109 420 3 1 " + shared);
    }

    private static void order() {
        TarArchive x = five();
        Kit.fill(x, 1, 32);
        refused(x, 5, 256, TarArchive.ERR_ARG);
        refused(x, 0, 256, TarArchive.ERR_KIND);
        refused(x, 0, -1, TarArchive.ERR_KIND);
        refused(x, 1, 256, TarArchive.ERR_ARG);
        refused(x, 3, -1, TarArchive.ERR_ARG);
        refused(x, 3, 0, TarArchive.ERR_FULL);
    }

    private static void nodes() {
        TarArchive none = new TarArchive(8, 12);
        refused(none, 0, 1, TarArchive.ERR_ARG);
        TarArchive x = five();
        // Extracted FILEs at these indices are no source nodes.
        Kit.load(x, file("a", 0), file("b", 0), file("c", 0), file("d", 0), file("e", 0), file("f", 0), file("g", 0), END, END);
        Kit.due("extract()", x.extract(), 7);
        for (int node : new int[] {MIN, MIN + 1, -8, -2, -1, 5, 6, 7, 8, 9, 15, 16, 512, MAX}) {
            refused(x, node, 1, TarArchive.ERR_ARG);
        }
        Kit.due("the last node", x.appendData(4, 1), 1);
        Kit.due("the first FILE", x.appendData(1, 1), 2);
    }

    private static void dirs() {
        TarArchive x = five();
        for (int value : new int[] {0, 1, 255}) {
            refused(x, 0, value, TarArchive.ERR_KIND);
        }
        Kit.due("the DIR's size", x.nodeInfo(0, 0, TarArchive.INFO_SIZE), 0);
    }

    private static void values() {
        TarArchive x = five();
        for (int node : new int[] {1, 2, 3, 4}) {
            for (int value : new int[] {MIN, -256, -255, -1, 256, 257, 511, 65536, MAX}) {
                refused(x, node, value, TarArchive.ERR_ARG);
            }
        }
        Kit.due("appendData(1, 0)", x.appendData(1, 0), 1);
        Kit.due("appendData(1, 255)", x.appendData(1, 255), 2);
        Kit.due("byte 0", x.nodeByte(0, 1, 0), 0);
        Kit.due("byte 1", x.nodeByte(0, 1, 1), 255);
    }

    private static void full(int through) {
        TarArchive x = five();
        for (int size = 1; size <= 32; size++) {
            Kit.due("appendData " + size, x.appendData(through, size), size);
        }
        refused(x, through, 33, TarArchive.ERR_FULL);
        refused(x, through, 0, TarArchive.ERR_FULL);
        refused(x, 4, 33, TarArchive.ERR_FULL);
        for (int k = 0; k < 32; k++) {
            Kit.due("byte " + k, x.nodeByte(0, 1, k), k + 1);
        }
    }

    private static void refusals() {
        TarArchive x = Kit.busy();
        refused(x, -1, 1, TarArchive.ERR_ARG);
        refused(x, 4, 1, TarArchive.ERR_ARG);
        refused(x, 0, 1, TarArchive.ERR_KIND);
        refused(x, 1, 256, TarArchive.ERR_ARG);
        refused(x, 2, -1, TarArchive.ERR_ARG);
        Kit.fill(x, 1, 28);
        refused(x, 1, 1, TarArchive.ERR_FULL);
        refused(x, 2, 1, TarArchive.ERR_FULL);
    }

    private static void lastByte() {
        TarArchive x = five();
        for (int size = 1; size <= 32; size++) {
            int value = size * 8 - 1;
            x.appendData(size % 2 == 0 ? 1 : 4, value);
            Kit.due("the last byte", x.nodeByte(0, 1, size - 1), value);
            Kit.due("the byte after it", x.nodeByte(0, 1, size), TarArchive.ERR_ARG);
            Kit.due("the first byte", x.nodeByte(0, 1, 0), 7);
        }
    }

    private static void sizes() {
        TarArchive x = five();
        for (int size = 1; size <= 32; size++) {
            Kit.due("appendData", x.appendData(2, 200), size);
            Kit.due("INFO_SIZE", x.nodeInfo(0, 2, TarArchive.INFO_SIZE), size);
        }
    }

    private static void seenThrough() {
        TarArchive x = five();
        int size = 0;
        for (int through : new int[] {4, 1, 3}) {
            x.appendData(through, 100 + size);
            size++;
            for (int node : new int[] {1, 3, 4}) {
                Kit.due("size through " + node, x.nodeInfo(0, node, TarArchive.INFO_SIZE), size);
                Kit.due("byte through " + node, x.nodeByte(0, node, size - 1), 99 + size);
            }
        }
        Kit.due("a later LINK", Kit.link(x, -1, "n", 4), 5);
        Kit.due("size through it", x.nodeInfo(0, 5, TarArchive.INFO_SIZE), 3);
        Kit.due("byte through it", x.nodeByte(0, 5, 2), 102);
    }

    private static void otherFiles() {
        TarArchive x = new TarArchive(8, 12);
        for (int i = 0; i < 8; i++) {
            Kit.file(x, -1, "f" + i);
        }
        // Neighbours are full and empty in turn: a byte too far would be seen.
        for (int i = 0; i < 8; i += 2) {
            for (int k = 0; k < 32; k++) {
                x.appendData(i, 10 + i);
            }
        }
        for (int i = 0; i < 8; i++) {
            Kit.due("size of " + i, x.nodeInfo(0, i, TarArchive.INFO_SIZE), i % 2 == 0 ? 32 : 0);
            for (int k = 0; k < 32; k++) {
                Kit.due("byte of " + i, x.nodeByte(0, i, k), i % 2 == 0 ? 10 + i : TarArchive.ERR_ARG);
            }
        }
    }

    private static String nodesOnly(TarArchive x) {
        StringBuilder s = new StringBuilder();
        for (int i = 0; i < x.nodeCount(0); i++) {
            for (int what : new int[] {0, 1, 2, 3, 5}) {
                s.append(x.nodeInfo(0, i, what)).append(' ');
            }
        }
        return s.toString();
    }

    private static void rest() {
        TarArchive x = Kit.busy();
        String nodes = nodesOnly(x);
        String beside = besideSource(x);
        for (int k = 0; k < 20; k++) {
            Kit.due("appendData", x.appendData(1 + k % 2, 9), 5 + k);
            x.appendData(3, 8);
            Kit.due("the nodes", nodesOnly(x), nodes);
            Kit.due("the rest", besideSource(x), beside);
        }
    }
}
